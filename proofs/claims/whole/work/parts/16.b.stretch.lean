/-! countTrees: units over one stretch, and the class -/
def fs (l : List PR) (u : PR → Int64) : Int64 := l.foldl (fun s q => s + u q) (lN 0)
theorem fs_from (u : PR → Int64) : ∀ (l : List PR) (a : Int64), l.foldl (fun s q => s + u q) a = a + fs l u := by
  intro l
  induction l with
  | nil => intro a; exact (l_add0 a).symm
  | cons q l ih =>
    intro a
    unfold fs
    rw [List.foldl_cons, List.foldl_cons, ih, ih (lN 0 + u q), l0_add, Int64.add_assoc]
theorem fs_cons (u : PR → Int64) (q : PR) (l : List PR) : fs (q :: l) u = u q + fs l u := by
  unfold fs
  rw [List.foldl_cons, fs_from, l0_add]
  rfl
theorem fs_add (u v : PR → Int64) : ∀ (l : List PR), fs l (fun q => u q + v q) = fs l u + fs l v := by
  intro l
  induction l with
  | nil => rfl
  | cons q l ih =>
    rw [fs_cons, fs_cons, fs_cons, ih, Int64.add_assoc, Int64.add_assoc]
    congr 1
    rw [← Int64.add_assoc, ← Int64.add_assoc, Int64.add_comm (v q) (fs l u)]
theorem fs_c {u v : PR → Int64} : ∀ (l : List PR), (∀ q ∈ l, u q = v q) → fs l u = fs l v := by
  intro l
  induction l with
  | nil => intro _; rfl
  | cons q l ih =>
    intro h
    rw [fs_cons, fs_cons, h q (List.mem_cons_self ..), ih (fun p hp => h p (List.mem_cons_of_mem _ hp))]
def tg (q : PR) : Nat := q.2.getD 0 0 - 1
/-- trees that do not begin with a unit; units -/
def pln (w : PR → Int64) (G : List PR) (x : Nat) : Int64 := fs G (fun q => if q.1 = x ∧ unB q = false then w q else lN 0)
def utl (F : Nat → Int64) (G : List PR) (x : Nat) : Int64 := fs G (fun q => if q.1 = x ∧ unB q = true then F (tg q) else lN 0)
def Un (P : Nat → Int64) (G : List PR) (F : Nat → Int64) : Nat → Int64 := fun x => P x + utl F G x
theorem tg_lt {q : PR} (hq : okp q) (hu : unB q = true) : tg q < 16 := by
  obtain ⟨a, hw, h1, h2⟩ := unB_w hq hu
  unfold tg
  rw [hw]
  show a - 1 < 16
  omega
theorem utl_c {F F' : Nat → Int64} {G : List PR} {x : Nat} (h : ∀ q ∈ G, q.1 = x → unB q = true → F (tg q) = F' (tg q)) : utl F G x = utl F' G x := by
  refine fs_c G (fun q hq => ?_)
  by_cases hc : q.1 = x ∧ unB q = true
  · rw [if_pos hc, if_pos hc, h q hq hc.1 hc.2]
  · rw [if_neg hc, if_neg hc]
-- no circles: a rank
def rk (G : List PR) (x : Nat) : Nat := (List.range 16).countP (fun y => bt (clw (uns G) x) y)
theorem uns_k (x y : Nat) (hy : y < 32) : ∀ (G : List PR) (L : Nat → Int32), (∀ q ∈ G, okp q) → bt ((G.foldl (fun L q => if unB q then upd L q.1 (L q.1 ||| si_ishl (nI 1) (nI (q.2.getD 0 0 - 1))) else L) L) x) y = (bt (L x) y || G.any (fun q => decide (q.1 = x) && (unB q && decide (tg q = y)))) := by
  intro G
  induction G with
  | nil => intro L _; simp
  | cons q G ih =>
    intro L h
    have hq := h q (List.mem_cons_self ..)
    rw [List.foldl_cons, ih _ (fun p hp => h p (List.mem_cons_of_mem _ hp)), List.any_cons, ← Bool.or_assoc]
    congr 1
    cases hu : unB q with
    | false => rw [if_neg (by decide), Bool.false_and, Bool.and_false, Bool.or_false]
    | true =>
      have ht := tg_lt hq hu
      rw [if_pos rfl, Bool.true_and]
      unfold upd
      by_cases hx : x = q.1
      · subst hx
        rw [if_pos rfl, b_or, show q.2.getD 0 0 - 1 = tg q from rfl, bt_sh (by omega) hy, decide_eq_true rfl, Bool.true_and]
        congr 1
        exact decide_eq_decide.mpr ⟨fun h => h.symm, fun h => h.symm⟩
      · rw [if_neg hx, decide_eq_false (fun h => hx h.symm), Bool.false_and, Bool.or_false]
theorem uns_bt {G : List PR} (hG : Oks G) {q : PR} (hq : q ∈ G) (hu : unB q = true) : bt (uns G q.1) (tg q) = true := by
  have ht := tg_lt (hG q hq) hu
  unfold uns
  rw [uns_k _ _ (by omega) G Lz hG, Bool.or_eq_true]
  refine Or.inr (List.any_eq_true.mpr ⟨q, hq, ?_⟩)
  rw [decide_eq_true rfl, hu, decide_eq_true rfl]
  rfl
theorem lps_bt (L : Nat → Int32) {y : Nat} (hy : y < 16) : bt (lps L) y = bt (L y) y := by
  have key : ∀ n s, n ≤ 16 → bt ((List.range n).foldl (fun s x => s ||| (L x &&& si_ishl (nI 1) (nI x))) s) y = (bt s y || (decide (y < n) && bt (L y) y)) := by
    intro n
    induction n with
    | zero => intro s _; simp
    | succ n ih =>
      intro s hn
      rw [List.range_succ, List.foldl_append, List.foldl_cons, List.foldl_nil, b_or, ih s (by omega), b_and, bt_sh (by omega) (by omega), Bool.or_assoc]
      congr 1
      by_cases e : y = n
      · subst e
        rw [decide_eq_false (show ¬ y < y by omega), decide_eq_true rfl, decide_eq_true (show y < y + 1 by omega), Bool.false_and, Bool.false_or, Bool.and_true, Bool.true_and]
      · rw [decide_eq_false e, Bool.and_false, Bool.or_false]
        by_cases h : y < n
        · rw [decide_eq_true h, decide_eq_true (show y < n + 1 by omega)]
        · rw [decide_eq_false h, decide_eq_false (show ¬ y < n + 1 by omega)]
  unfold lps
  rw [key 16 (nI 0) (Nat.le_refl _), show bt (nI 0) y = false from b_0 y, decide_eq_true hy, Bool.false_or, Bool.true_and]
theorem rk_lt {G : List PR} (hG : Oks G) (hc : cyB G = false) {q : PR} (hq : q ∈ G) (hu : unB q = true) : rk G (tg q) < rk G q.1 := by
  have ht := tg_lt (hG q hq) hu
  have hx := (hG q hq).1
  have h0 : lps (clw (uns G)) = nI 0 := by
    unfold cyB at hc
    have : decide (lps (clw (uns G)) = nI 0) = true := by simpa using hc
    exact of_decide_eq_true this
  have hno : ∀ y, y < 16 → bt (clw (uns G) y) y = false := by
    intro y hy
    rw [← lps_bt _ hy, h0]
    exact b_0 y
  have h1 : bt (clw (uns G) q.1) (tg q) = true := clw_in _ hx (uns_bt hG hq hu)
  unfold rk
  exact cnt_lt _ (fun y _ hy => clw_tr _ hx ht h1 hy) ⟨tg q, List.mem_range.mpr ht, h1, hno _ ht⟩
theorem rk_15 {G : List PR} (hc : cyB G = false) {x : Nat} (hx : x < 16) : rk G x < 16 := by
  have h0 : lps (clw (uns G)) = nI 0 := by
    unfold cyB at hc
    have : decide (lps (clw (uns G)) = nI 0) = true := by simpa using hc
    exact of_decide_eq_true this
  have hno : bt (clw (uns G) x) x = false := by
    rw [← lps_bt _ hx, h0]
    exact b_0 x
  have : rk G x < (List.range 16).countP (fun _ => true) := cnt_lt _ (fun _ _ _ => rfl) ⟨x, List.mem_range.mpr hx, rfl, hno⟩
  have h2 : (List.range 16).countP (fun _ => true) = 16 := by decide
  omega
theorem Un_r {G : List PR} (hG : Oks G) (hc : cyB G = false) (P : Nat → Int64) : ∀ (r : Nat) (F F' : Nat → Int64) (x : Nat), rk G x < r → itr (Un P G) r F x = itr (Un P G) r F' x := by
  have e : ∀ (r : Nat) (F : Nat → Int64), itr (Un P G) (r + 1) F = Un P G (itr (Un P G) r F) := by
    intro r
    induction r with
    | zero => intro F; rfl
    | succ r ih => intro F; show itr (Un P G) (r + 1) (Un P G F) = _; rw [ih]; rfl
  intro r
  induction r with
  | zero => intro F F' x h; omega
  | succ r ih =>
    intro F F' x h
    rw [e, e]
    unfold Un
    congr 1
    refine utl_c (fun q hq h1 h2 => ?_)
    have := rk_lt hG hc hq h2
    rw [h1] at this
    exact ih F F' _ (by omega)
def Sol (P : Nat → Int64) (G : List PR) : Nat → Int64 := itr (Un P G) 16 P
theorem Sol_fix {G : List PR} (hG : Oks G) (hc : cyB G = false) (P : Nat → Int64) {x : Nat} (hx : x < 16) : Sol P G x = P x + utl (Sol P G) G x := by
  have e : ∀ (r : Nat) (F : Nat → Int64), itr (Un P G) (r + 1) F = Un P G (itr (Un P G) r F) := by
    intro r
    induction r with
    | zero => intro F; rfl
    | succ r ih => intro F; show itr (Un P G) (r + 1) (Un P G F) = _; rw [ih]; rfl
  have h1 : itr (Un P G) 16 P x = itr (Un P G) 16 (Un P G P) x := Un_r hG hc P 16 _ _ x (rk_15 hc hx)
  unfold Sol
  rw [h1]
  show itr (Un P G) 17 P x = _
  rw [e]
  rfl
/-- the trees with one more stretch -/
def strT (T : Nat → Int64) (st e : Nat) (F : Nat → Int64) : Nat → Int64 := fun j => if j % 121 = 11 * st + e ∧ j < 1936 then F (j / 121) else T j
def PlT (W : List Nat) (G : List PR) (T : Nat → Int64) (st e : Nat) : Nat → Int64 := pln (fun q => wy W T st e q.2) G
def oneT (W : List Nat) (G : List PR) (T : Nat → Int64) (st e : Nat) : Nat → Int64 := strT T st e (Sol (PlT W G T st e) G)
-- the class
theorem pl_fold (w : PR → Int64) : ∀ (G : List PR) (P : Nat → Int64) (x : Nat), (G.foldl (fun P q => if unB q then P else (fun j => if j = q.1 then P q.1 + w q else P j)) P) x = P x + pln w G x := by
  intro G
  induction G with
  | nil => intro P x; exact (l_add0 _).symm
  | cons q G ih =>
    intro P x
    rw [List.foldl_cons, ih]
    unfold pln
    rw [fs_cons, ← Int64.add_assoc]
    congr 1
    cases hu : unB q with
    | true => rw [if_pos rfl, if_neg (fun h => by cases h.2), l_add0]
    | false =>
      rw [if_neg (by decide)]
      by_cases hx : x = q.1
      · rw [if_pos hx, if_pos ⟨hx.symm, rfl⟩, hx]
      · rw [if_neg hx, if_neg (fun h => hx h.1.symm), l_add0]
theorem ut_fold (F : Nat → Int64) : ∀ (G : List PR) (P : Nat → Int64) (x : Nat), (G.foldl (fun P q => if unB q then (fun j => if j = q.1 then P q.1 + F (tg q) else P j) else P) P) x = P x + utl F G x := by
  intro G
  induction G with
  | nil => intro P x; exact (l_add0 _).symm
  | cons q G ih =>
    intro P x
    rw [List.foldl_cons, ih]
    unfold utl
    rw [fs_cons, ← Int64.add_assoc]
    congr 1
    cases hu : unB q with
    | false => rw [if_neg (by decide), if_neg (fun h => by cases h.2), l_add0]
    | true =>
      rw [if_pos rfl]
      by_cases hx : x = q.1
      · rw [if_pos hx, if_pos ⟨hx.symm, rfl⟩, hx]
      · rw [if_neg hx, if_neg (fun h => hx h.1.symm), l_add0]
theorem cpy16 : (decide ((nI 0) ≤ (nI 0)) && decide ((nI 0) ≤ (nI 0)) && decide ((nI 0) ≤ (nI 16)) && decide ((nI 0).toNatClampNeg + (nI 16).toNatClampNeg ≤ 16) && decide ((nI 0).toNatClampNeg + (nI 16).toNatClampNeg ≤ 16) && true) = true := by decide
theorem cpy_arr {σ : si_M} {a b : Nat} {V : Nat → Int64} (h : Arr σ a 16 V) : Arr (si_sA σ b (va_cpy (σ.2 a) (σ.2 b) (nI 0).toNatClampNeg (nI 0).toNatClampNeg (nI 16).toNatClampNeg)) b 16 V := fun j hj => by
  rw [sA_same, clamp0, nI_clamp (by decide), pk_cpy_in (Nat.zero_le j) (by omega), show 0 + (j - 0) = j by omega]
  exact h j hj
theorem s_X4_countPlain {σ : si_M} {W : List Nat} (hW : Wok W) (hc : WC σ W) {T : Nat → Int64} (hT : Arr σ 15 1936 T) {S : List PR × Bool} (hm : Gm σ 3 S) (hG : Gok S.1) {st e : Nat} (hse : st < e) (he : e ≤ W.length) : ∃ τ, si_sc gP nX4_countPlain [.ref 12, .ref 3, .int (nI st), .int (nI e)] σ = some (none, τ) ∧ Arr τ 17 16 (PlT W S.1 T st e) ∧ Arr τ 18 16 (PlT W S.1 T st e) ∧ Keep [16, 17, 18] σ τ := by
  have hl := hG.1
  obtain ⟨τ1, b1, b2, b3⟩ := s_fillJ (g := 17) (by decide) (lN 0) σ
  rw [e_X4_countPlain, b1, cv_s]
  obtain ⟨τ2, c1, c2⟩ := lp_ex (F := fun i τ => si_sem gP nX4_countPlain 11 [.ref 12, .ref 3, .int (nI st), .int (nI e), .int (nI i), si_U, si_U] [] τ) (G := S.1) (f := fun P q => if unB q then P else (fun j => if j = q.1 then P q.1 + wy W T st e q.2 else P j)) (R := fun τ P => Arr τ 17 16 P ∧ Keep [16, 17] σ τ) (fun i τ P hi hR => by
    obtain ⟨r1, r2⟩ := hR
    have hok := hG.2.1.at hi
    have hle := hok.1
    have hm' : Gm τ 3 S := hm.keep r2 (by decide) (by decide)
    obtain ⟨τ', a1, a2⟩ := s_X4_waysThrough hW (hc.keep r2 (by decide) (by decide)) (hT.keep r2 (by decide)) hok hse he
    try dsimp only
    rw [h_X4_countPlain_11, e_X2_count 3 (by decide), ci_s, hm'.1, cF (nI_ge hi (by omega)), s_X2_at (by decide) hm' hl hi, cl_s, s_X5_isUnit hok, ci_s, bn, nI_add]
    cases hu : unB S.1[i] with
    | true => rw [cond_true]; exact ⟨τ, rfl, r1, r2⟩
    | false =>
      rw [cond_false, s_X5_left hok, ci_s, inT (show S.1[i].1 < 16 by omega) (by decide), a1, cl_s, inT (show S.1[i].1 < 16 by omega) (by decide), nI_clamp (by omega), r1 _ hle]
      exact ⟨_, rfl, (r1.keep a2 (by decide)).set _ _, (r2.tr (a2.mono (by decide))).tr (Keep.sJ τ' (by decide) _ _)⟩) τ1 (fun _ => lN 0) ⟨b2, b3.mono (by decide)⟩
  obtain ⟨r1, r2⟩ := c2
  have hm' : Gm τ2 3 S := hm.keep r2 (by decide) (by decide)
  have r1' : Arr τ2 17 16 (PlT W S.1 T st e) := r1.ext (fun j _ => by rw [pl_fold (fun q => wy W T st e q.2), l0_add]; rfl)
  try dsimp only at c1
  rw [c1, h_X4_countPlain_11, e_X2_count 3 (by decide), ci_s, hm'.1, cT (nI_le (Nat.le_refl _) (by omega)), cpy16, cond_true]
  exact ⟨_, rfl, r1'.keep (Keep.sA (S := [18]) τ2 (by decide) _) (by decide), cpy_arr r1', (r2.mono (by decide)).tr (Keep.sA τ2 (by decide) _)⟩
theorem s_X4_spreadUnits {σ : si_M} {S : List PR × Bool} (hm : Gm σ 3 S) (hG : Gok S.1) {P : Nat → Int64} (hP : Arr σ 17 16 P) (hQ : Arr σ 18 16 P) : ∃ τ, si_sc gP nX4_spreadUnits [.ref 12, .ref 3] σ = some (none, τ) ∧ Arr τ 18 16 (Sol P S.1) ∧ Keep [18, 19] σ τ := by
  have hl := hG.1
  have round : ∀ (r : Nat) (F : Nat → Int64) (τ : si_M), r < 16 → Arr τ 18 16 F → Keep [18, 19] σ τ → ∃ τ', si_sem gP nX4_spreadUnits 2 [.ref 12, .ref 3, .int (nI r), si_U, si_U, si_U, si_U] [] τ = si_sem gP nX4_spreadUnits 2 [.ref 12, .ref 3, .int (nI (r + 1)), si_U, si_U, si_U, si_U] [] τ' ∧ Arr τ' 18 16 (Un P S.1 F) ∧ Keep [18, 19] σ τ' := by
    intro r F τ hr q1 q2
    have hP' : Arr τ 17 16 P := hP.keep q2 (by decide)
    have e19 := cpy_arr (b := 19) q1
    have k1 : Keep [18, 19] τ (si_sA τ 19 (va_cpy (τ.2 18) (τ.2 19) (nI 0).toNatClampNeg (nI 0).toNatClampNeg (nI 16).toNatClampNeg)) := Keep.sA τ (by decide) _
    have e18 : Arr (si_sA (si_sA τ 19 (va_cpy (τ.2 18) (τ.2 19) (nI 0).toNatClampNeg (nI 0).toNatClampNeg (nI 16).toNatClampNeg)) 18 (va_cpy (τ.2 17) (τ.2 18) (nI 0).toNatClampNeg (nI 0).toNatClampNeg (nI 16).toNatClampNeg)) 18 16 P := fun j hj => by
      rw [sA_same, clamp0, nI_clamp (by decide), pk_cpy_in (Nat.zero_le j) (by omega), show 0 + (j - 0) = j by omega]
      exact hP' j hj
    rw [h_X4_spreadUnits_2, cF (nI_ge hr (by decide)), cpy16, cond_true, cond_true]
    obtain ⟨τ2, c1, c2⟩ := lp_ex (F := fun i τ => si_sem gP nX4_spreadUnits 40 [.ref 12, .ref 3, .int (nI r), .int (nI i), si_U, si_U, si_U] [] τ) (G := S.1) (f := fun Q q => if unB q then (fun j => if j = q.1 then Q q.1 + F (tg q) else Q j) else Q) (R := fun τ Q => Arr τ 18 16 Q ∧ Arr τ 19 16 F ∧ Keep [18, 19] σ τ) (fun i τ Q hi hR => by
      obtain ⟨r1, r2, r3⟩ := hR
      have hok := hG.2.1.at hi
      have hle := hok.1
      have hm' : Gm τ 3 S := hm.keep r3 (by decide) (by decide)
      try dsimp only
      rw [h_X4_spreadUnits_40, e_X2_count 3 (by decide), ci_s, hm'.1, cF (nI_ge hi (by omega)), s_X2_at (by decide) hm' hl hi, cl_s, s_X5_symbolAt hok (by decide), ci_s, s_X5_isUnit hok, ci_s, bz, nI_add]
      cases hu : unB S.1[i] with
      | false => rw [cond_false]; exact ⟨τ, rfl, r1, r2, r3⟩
      | true =>
        obtain ⟨a, hw, h1, h2⟩ := unB_w hok hu
        have hg0 : S.1[i].2.getD 0 0 = a := by rw [hw]; rfl
        have htg : tg S.1[i] = a - 1 := by unfold tg; rw [hg0]
        have hsy : sy S.1[i] 0 = nI (a - 1) := by rw [sy_in hok (by rw [hw]; simp), hg0]
        rw [cond_true, hsy, s_X8_isNonterminal (by omega), ci_s, bz, decide_eq_true (show a - 1 < 16 by omega), cond_true, s_X5_left hok, ci_s, inT (show S.1[i].1 < 16 by omega) (by decide), inT (show a - 1 < 16 by omega) (by decide), inT (show S.1[i].1 < 16 by omega) (by decide), nI_clamp (by omega), nI_clamp (by omega), r1 _ hle, r2 _ (by omega), ← htg]
        have k2 : Keep [18] τ (si_sJ τ 18 S.1[i].1 (Q S.1[i].1 + F (tg S.1[i]))) := Keep.sJ τ (by decide) _ _
        exact ⟨_, rfl, r1.set _ _, r2.keep k2 (by decide), r3.tr (k2.mono (by decide))⟩) _ P ⟨e18, e19.keep (Keep.sA (S := [18]) _ (by decide) _) (by decide), (q2.tr k1).tr (Keep.sA _ (by decide) _)⟩
    obtain ⟨r1, r2, r3⟩ := c2
    have hm' : Gm τ2 3 S := hm.keep r3 (by decide) (by decide)
    refine ⟨τ2, ?_, r1.ext (fun j _ => ut_fold F S.1 P j), r3⟩
    refine Eq.trans c1 ?_
    try dsimp only
    rw [h_X4_spreadUnits_40, e_X2_count 3 (by decide), ci_s, hm'.1, cT (nI_le (Nat.le_refl _) (by omega)), nI_add]
  have key : ∀ (d r : Nat) (F : Nat → Int64) (τ : si_M), r + d = 16 → Arr τ 18 16 F → Keep [18, 19] σ τ → ∃ τ', si_sem gP nX4_spreadUnits 2 [.ref 12, .ref 3, .int (nI r), si_U, si_U, si_U, si_U] [] τ = some (none, τ') ∧ Arr τ' 18 16 (itr (Un P S.1) d F) ∧ Keep [18, 19] σ τ' := by
    intro d
    induction d with
    | zero =>
      intro r F τ hr q1 q2
      rw [h_X4_spreadUnits_2, cT (nI_le (show 16 ≤ r by omega) (by omega))]
      exact ⟨τ, rfl, q1, q2⟩
    | succ d ih =>
      intro r F τ hr q1 q2
      obtain ⟨τ', t1, t2, t3⟩ := round r F τ (by omega) q1 q2
      rw [t1]
      exact ih (r + 1) _ τ' (by omega) t2 t3
  rw [e_X4_spreadUnits]
  exact key 16 0 P σ rfl hQ Keep.rf
theorem s_X4_keepTotals {σ : si_M} {T F : Nat → Int64} (hT : Arr σ 15 1936 T) (hF : Arr σ 18 16 F) {st e : Nat} (hst : st ≤ 9) (he : e ≤ 10) : ∃ τ, si_sc gP nX4_keepTotals [.ref 12, .int (nI st), .int (nI e)] σ = some (none, τ) ∧ Arr τ 15 1936 (strT T st e F) ∧ Keep [15] σ τ := by
  have key : ∀ (d i : Nat) (τ : si_M), i + d = 16 → Arr τ 15 1936 (fun j => if j % 121 = 11 * st + e ∧ j < 121 * i then F (j / 121) else T j) → Keep [15] σ τ → ∃ τ', si_sem gP nX4_keepTotals 2 [.ref 12, .int (nI st), .int (nI e), .int (nI i)] [] τ = some (none, τ') ∧ Arr τ' 15 1936 (strT T st e F) ∧ Keep [15] σ τ' := by
    intro d
    induction d with
    | zero =>
      intro i τ hi q1 q2
      have : i = 16 := by omega
      subst this
      rw [h_X4_keepTotals_2, cT (nI_le (Nat.le_refl _) (by decide))]
      exact ⟨τ, rfl, q1, q2⟩
    | succ d ih =>
      intro i τ hi q1 q2
      have hF' : Arr τ 18 16 F := hF.keep q2 (by decide)
      rw [h_X4_keepTotals_2, cF (nI_ge (show i < 16 by omega) (by decide)), inT (show i < 16 by omega) (by decide), nI_mul, nI_add, nI_mul, nI_add, inT (show (i * 11 + st) * 11 + e < 1936 by omega) (by decide), nI_clamp (by omega), nI_clamp (by omega), nI_add, hF' i (by omega)]
      refine ih (i + 1) _ (by omega) ((q1.set _ _).ext (fun j hj => ?_)) (q2.tr (Keep.sJ τ (by decide) _ _))
      try dsimp only
      by_cases h1 : j = (i * 11 + st) * 11 + e
      · rw [if_pos h1, if_pos (by omega), show j / 121 = i by omega]
      · rw [if_neg h1]
        by_cases h2 : j % 121 = 11 * st + e ∧ j < 121 * i
        · rw [if_pos h2, if_pos (by omega)]
        · rw [if_neg h2, if_neg (by omega)]
  rw [e_X4_keepTotals]
  exact key 16 0 σ rfl (hT.ext (fun j _ => by rw [if_neg (by omega)])) Keep.rf
theorem any_un {G : List PR} (h : G.any unB = false) (F : Nat → Int64) (x : Nat) : utl F G x = lN 0 := by
  unfold utl
  have : fs G (fun q => if q.1 = x ∧ unB q = true then F (tg q) else lN 0) = fs G (fun _ => lN 0) := fs_c G (fun q hq => by
    rw [if_neg (fun hh => by
      have : G.any unB = true := List.any_eq_true.mpr ⟨q, hq, hh.2⟩
      rw [h] at this
      cases this)])
  rw [this]
  clear h this
  induction G with
  | nil => rfl
  | cons q G ih => rw [fs_cons, ih]; rfl
theorem Sol_nu {G : List PR} (h : G.any unB = false) (P : Nat → Int64) : Sol P G = P := by
  have e : Un P G P = P := by
    funext x
    unfold Un
    rw [any_un h, l_add0]
  exact itr_fix e 16
def colT (W : List Nat) (G : List PR) (T : Nat → Int64) (z : Nat) : Nat → Int64 := (List.range (W.length + 1 - z)).foldl (fun T st => oneT W G T st (st + z)) T
def allT (W : List Nat) (G : List PR) : Nat → Int64 := (List.range W.length).foldl (fun T z => colT W G T (z + 1)) (fun _ => lN 0)
def trA (W : List Nat) (G : List PR) : Int64 := allT W G W.length
theorem s_X4_treesOf {σ : si_M} {W : List Nat} (hW : Wok W) (hc : WC σ W) {S : List PR × Bool} (hm : Gm σ 3 S) (hG : Gok S.1) : ∃ τ, si_sc gP nX4_treesOf [.ref 12, .ref 3] σ = some (some (.long (trA W S.1)), τ) ∧ Keep csc σ τ := by
  have hn := hW.1
  obtain ⟨τ1, b1, b2, b3⟩ := s_fillJ (g := 15) (by decide) (lN 0) σ
  have hm1 : Gm τ1 3 S := hm.keep b3 (by decide) (by decide)
  rw [e_X4_treesOf, b1, cv_s, s_X2_hasUnit hm1 hG, ci_s]
  have col : ∀ (z : Nat) (hz : 1 ≤ z) (hzn : z ≤ W.length) (τ : si_M) (T : Nat → Int64), Arr τ 15 1936 T → Keep [15, 16, 17, 18, 19] σ τ → ∃ τ', si_sem gP nX4_treesOf 26 [.ref 12, .ref 3, .int (bI (S.1.any unB)), .int (nI z), .int (nI 0)] [] τ = si_sem gP nX4_treesOf 15 [.ref 12, .ref 3, .int (bI (S.1.any unB)), .int (nI (z + 1)), si_U] [] τ' ∧ Arr τ' 15 1936 (colT W S.1 T z) ∧ Keep [15, 16, 17, 18, 19] σ τ' := by
    intro z hz hzn τ T hT hk
    obtain ⟨τ2, c1, c2⟩ := lp_ex (F := fun i τ => si_sem gP nX4_treesOf 26 [.ref 12, .ref 3, .int (bI (S.1.any unB)), .int (nI z), .int (nI i)] [] τ) (G := List.range (W.length + 1 - z)) (f := fun T st => oneT W S.1 T st (st + z)) (R := fun τ T => Arr τ 15 1936 T ∧ Keep [15, 16, 17, 18, 19] σ τ) (fun i τ T hi hR => by
      obtain ⟨r1, r2⟩ := hR
      have hi : i < W.length + 1 - z := by simpa using hi
      have hc' := hc.keep r2 (by decide) (by decide)
      have hm' : Gm τ 3 S := hm.keep r2 (by decide) (by decide)
      obtain ⟨τ3, a1, a2, a3, a4⟩ := s_X4_countPlain hW hc' r1 hm' hG (show i < i + z by omega) (show i + z ≤ W.length by omega)
      have hm3 : Gm τ3 3 S := hm'.keep a4 (by decide) (by decide)
      rw [List.getElem_range]
      try dsimp only
      rw [h_X4_treesOf_26, hc'.1, nI_add, nI_add, cF (nI_nlt (show i + z ≤ W.length by omega) (by omega)), a1, cv_s, bz]
      cases hu : S.1.any unB with
      | false =>
        obtain ⟨τ4, d1, d2, d3⟩ := s_X4_keepTotals (r1.keep a4 (by decide)) a3 (show i ≤ 9 by omega) (show i + z ≤ 10 by omega)
        rw [cond_false, d1, cv_s, nI_add]
        refine ⟨τ4, rfl, ?_, (r2.tr (a4.mono (by decide))).tr (d3.mono (by decide))⟩
        unfold oneT
        rw [Sol_nu hu]
        exact d2
      | true =>
        obtain ⟨τ4, f1, f2, f3⟩ := s_X4_spreadUnits hm3 hG a2 a3
        obtain ⟨τ5, d1, d2, d3⟩ := s_X4_keepTotals ((r1.keep a4 (by decide)).keep f3 (by decide)) f2 (show i ≤ 9 by omega) (show i + z ≤ 10 by omega)
        rw [cond_true, f1, cv_s, d1, cv_s, nI_add]
        exact ⟨τ5, rfl, d2, ((r2.tr (a4.mono (by decide))).tr (f3.mono (by decide))).tr (d3.mono (by decide))⟩) τ T ⟨hT, hk⟩
    obtain ⟨r1, r2⟩ := c2
    refine ⟨τ2, ?_, r1, r2⟩
    refine Eq.trans c1 ?_
    try dsimp only
    rw [List.length_range, h_X4_treesOf_26, (hc.keep r2 (by decide) (by decide)).1, nI_add, nI_add, cT (nI_lt (show W.length < W.length + 1 - z + z by omega) (by omega))]
  obtain ⟨τ2, c1, c2⟩ := lp_ex (F := fun i τ => si_sem gP nX4_treesOf 15 [.ref 12, .ref 3, .int (bI (S.1.any unB)), .int (nI (i + 1)), si_U] [] τ) (G := List.range W.length) (f := fun T z => colT W S.1 T (z + 1)) (R := fun τ T => Arr τ 15 1936 T ∧ Keep [15, 16, 17, 18, 19] σ τ) (fun i τ T hi hR => by
    obtain ⟨r1, r2⟩ := hR
    have hi : i < W.length := by simpa using hi
    obtain ⟨τ', a1, a2, a3⟩ := col (i + 1) (by omega) (by omega) τ T r1 r2
    rw [List.getElem_range]
    try dsimp only
    rw [h_X4_treesOf_15, (hc.keep r2 (by decide) (by decide)).1, cF (nI_nlt (show i + 1 ≤ W.length by omega) (by omega)), a1]
    exact ⟨τ', rfl, a2, a3⟩) τ1 (fun _ => lN 0) ⟨b2, b3.mono (by decide)⟩
  obtain ⟨r1, r2⟩ := c2
  refine ⟨τ2, ?_, r2.mono (by decide)⟩
  refine Eq.trans c1 ?_
  try dsimp only
  have h12 := (hc.keep r2 (by decide) (by decide)).1
  rw [List.length_range, h_X4_treesOf_15, h12, cT (nI_lt (Nat.lt_succ_self _) (by omega)), s_X4_treesAt r1 (by decide) (by decide) (show W.length ≤ 10 by omega), cl_s, show 121 * 0 + 11 * 0 + W.length = W.length by omega]
  rfl
