/-! countTrees: the model's stretches; the fact -/
def allS (W : List Nat) (G : List PR) (T : Nat → Int64) (st e x : Nat) : Int64 := fs G (fun q => if q.1 = x then wy W T st e q.2 else lN 0)
/-- trees that agree but for one stretch -/
def Ag (T T' : Nat → Int64) (st e : Nat) : Prop := ∀ j, j < 1936 → j % 121 ≠ 11 * st + e → T j = T' j
theorem ag_ts {W : List Nat} {T T' : Nat → Int64} {st e : Nat} (h : Ag T T' st e) (he : e ≤ 10) (a : Nat) : ∀ f k, st ≤ f → f < k → k ≤ e → ¬ (f = st ∧ k = e) → ts W T a f k = ts W T' a f k := by
  intro f k h1 h2 h3 h4
  unfold ts
  split
  · exact h _ (by omega) (by omega)
  · rfl
theorem ag_wy {W : List Nat} {T T' : Nat → Int64} {st e : Nat} (h : Ag T T' st e) (hse : st < e) (he : e ≤ 10) {q : PR} (hq : okp q) (hne : emB q = false) (hu : unB q = false) : wy W T st e q.2 = wy W T' st e q.2 := by
  have hl : 0 < q.2.length := by
    unfold emB at hne
    have := of_decide_eq_false hne
    omega
  match hw : q.2 with
  | [] => rw [hw] at hl; simp at hl
  | [a] =>
    rw [wy_one hse, wy_one hse]
    have ha : ¬ a ≤ 16 := by
      intro h16
      have ha1 := hq.2.2 a (by rw [hw]; exact List.mem_singleton.mpr rfl)
      unfold unB at hu
      rw [hw] at hu
      simp at hu
      omega
    unfold ts
    rw [if_neg ha, if_neg ha]
  | a :: b :: w => exact wy_cong (fun c f k g1 g2 g3 g4 => ag_ts h he c f k g1 g2 g3 g4) (by simp)
theorem allS_eq {W : List Nat} {G : List PR} (hG : Oks G) (hne : G.any emB = false) {T T0 : Nat → Int64} {st e : Nat} (h : Ag T T0 st e) (hse : st < e) (he : e ≤ 10) (x : Nat) : allS W G T st e x = PlT W G T0 st e x + utl (fun y => T (121 * y + 11 * st + e)) G x := by
  unfold allS PlT pln utl
  rw [← fs_add]
  refine fs_c G (fun q hq => ?_)
  have hqo := hG q hq
  have hqe : emB q = false := by
    cases hb : emB q with
    | false => rfl
    | true =>
      have : G.any emB = true := List.any_eq_true.mpr ⟨q, hq, hb⟩
      rw [hne] at this
      cases this
  by_cases hx : q.1 = x
  · cases hu : unB q with
    | false => rw [if_pos hx, if_pos ⟨hx, rfl⟩, if_neg (fun h => by cases h.2), l_add0, ag_wy h hse he hqo hqe hu]
    | true =>
      obtain ⟨a, hw, h1, h2⟩ := unB_w hqo hu
      have htg : tg q = a - 1 := by unfold tg; rw [hw]; rfl
      rw [if_pos hx, if_neg (fun h => by cases h.2), if_pos ⟨hx, rfl⟩, l0_add, hw, wy_one hse, htg]
      unfold ts
      rw [if_pos h2]
  · rw [if_neg hx, if_neg (fun h => hx h.1), if_neg (fun h => hx h.1)]
    rfl
theorem s_X9_countStretch {σ : si_M} {W : List Nat} (hW : Wok W) (hc : WM σ W) {T0 : Nat → Int64} (hT : Arr σ 37 1936 T0) {G : List PR} (h1 : σ.1 29 1 = nI G.length) (h2 : Row (σ.2 30) G) (hG : Gok G) (hne : G.any emB = false) (hcy : cyB G = false) {st e : Nat} (hse : st < e) (he : e ≤ W.length) : ∃ τ, si_sc gP nX9_countStretch [.ref 29, .int (nI st), .int (nI e)] σ = some (none, τ) ∧ Arr τ 37 1936 (oneT W G T0 st e) ∧ KeepM [] [37, 38, 39] σ τ := by
  have hn := hW.1
  have hl := hG.1
  have e10 : e ≤ 10 := by omega
  rw [e_X9_countStretch]
  have w24 : ∀ (r x : Nat) (hx : x < 16) (T : Nat → Int64) (d i : Nat) (s : Int64) (τ : si_M), i + d = G.length → Arr τ 37 1936 T → KeepM [] [37, 38, 39] σ τ → ∃ τ', si_sem gP nX9_countStretch 24 [.ref 29, .int (nI st), .int (nI e), .int (nI r), .int (nI x), .long s, si_U, .int (nI i)] [] τ = si_sem gP nX9_countStretch 24 [.ref 29, .int (nI st), .int (nI e), .int (nI r), .int (nI x), .long ((G.drop i).foldl (fun s q => s + (if q.1 = x then wy W T st e q.2 else lN 0)) s), si_U, .int (nI G.length)] [] τ' ∧ Arr τ' 37 1936 T ∧ KeepM [] [37, 38, 39] σ τ' := by
    intro r x hx T d
    induction d with
    | zero =>
      intro i s τ hi q1 q2
      have : i = G.length := by omega
      subst this
      rw [List.drop_length]
      exact ⟨τ, rfl, q1, q2⟩
    | succ d ih =>
      intro i s τ hi q1 q2
      have hil : i < G.length := by omega
      have hok := hG.2.1.at hil
      have hle := hok.1
      have hm1 : τ.1 29 1 = nI G.length := by rw [(q2.2 1 (by decide)).1]; exact h1
      have hm2 : Row (τ.2 30) G := by rw [(q2.1 30 (by decide) (by decide)).2]; exact h2
      have hc' : WM τ W := ⟨by rw [(q2.2 16 (by decide)).1]; exact hc.1, fun j hj => by rw [(q2.1 35 (by decide) (by decide)).1]; exact hc.2 j hj⟩
      rw [h_X9_countStretch_24, hm1, cF (nI_ge hil (by omega)), inT (show i < 60 by omega) (by decide), nI_clamp (by omega), hm2.at hil, s_X9_left hok, ci_s, nI_add, List.drop_eq_getElem_cons hil, List.foldl_cons]
      by_cases ex : G[i].1 = x
      · obtain ⟨τ', a1, a2⟩ := s_X9_waysOf hW hc' q1 hok hse he
        rw [nF (by rw [ex]), inT (show i < 60 by omega) (by decide), hm2.at hil, a1, cl_s, if_pos ex]
        exact ih (i + 1) _ τ' (by omega) (q1.of a2 (by decide) (by decide)) (q2.tr (a2.mono (by decide) (by decide)))
      · rw [nT (nI_eqF ex (by omega) (by omega)), if_neg ex]
        exact ih (i + 1) _ τ (by omega) q1 q2
  have one : ∀ (r x : Nat) (hx : x < 16) (T : Nat → Int64) (τ : si_M), Arr τ 37 1936 T → KeepM [] [37, 38, 39] σ τ → ∃ τ', si_sem gP nX9_countStretch 24 [.ref 29, .int (nI st), .int (nI e), .int (nI r), .int (nI x), .long (lN 0), si_U, .int (nI 0)] [] τ = si_sem gP nX9_countStretch 11 [.ref 29, .int (nI st), .int (nI e), .int (nI r), .int (nI (x + 1)), si_U, si_U, si_U] [] τ' ∧ Arr τ' 37 1936 (fun j => if j = 121 * x + 11 * st + e then allS W G T st e x else T j) ∧ KeepM [] [37, 38, 39] σ τ' := by
    intro r x hx T τ q1 q2
    obtain ⟨τ', a1, a2, a3⟩ := w24 r x hx T G.length 0 (lN 0) τ (by omega) q1 q2
    have hm1 : τ'.1 29 1 = nI G.length := by rw [(a3.2 1 (by decide)).1]; exact h1
    rw [a1, h_X9_countStretch_24, hm1, cT (nI_le (Nat.le_refl _) (by omega)), nI_mul, nI_mul, nI_add, nI_add, inT (show 121 * x + 11 * st + e < 1936 by omega) (by decide), nI_clamp (by omega), nI_add, List.drop_zero]
    exact ⟨_, rfl, a2.set _ _, a3.tr (KeepM.cJ τ' (by decide) (by decide) _ _)⟩
  have hSol := fun x (hx : x < 16) => Sol_fix hG.2.1 hcy (PlT W G T0 st e) hx
  generalize hS : Sol (PlT W G T0 st e) G = S at hSol
  have w11 : ∀ (r : Nat) (d x : Nat) (T : Nat → Int64) (τ : si_M), x + d = 16 → Arr τ 37 1936 T → KeepM [] [37, 38, 39] σ τ → Ag T T0 st e → (∀ y, y < 16 → (rk G y < r ∨ (y < x ∧ rk G y < r + 1)) → T (121 * y + 11 * st + e) = S y) → ∃ τ' T', si_sem gP nX9_countStretch 11 [.ref 29, .int (nI st), .int (nI e), .int (nI r), .int (nI x), si_U, si_U, si_U] [] τ = si_sem gP nX9_countStretch 2 [.ref 29, .int (nI st), .int (nI e), .int (nI (r + 1)), si_U, si_U, si_U, si_U] [] τ' ∧ Arr τ' 37 1936 T' ∧ KeepM [] [37, 38, 39] σ τ' ∧ Ag T' T0 st e ∧ (∀ y, y < 16 → rk G y < r + 1 → T' (121 * y + 11 * st + e) = S y) := by
    intro r d
    induction d with
    | zero =>
      intro x T τ hx q1 q2 q3 q4
      rw [h_X9_countStretch_11, cT (nI_le (show 16 ≤ x by omega) (by omega)), nI_add]
      exact ⟨τ, T, rfl, q1, q2, q3, fun y hy hr => q4 y hy (Or.inr ⟨by omega, hr⟩)⟩
    | succ d ih =>
      intro x T τ hx q1 q2 q3 q4
      have hx16 : x < 16 := by omega
      obtain ⟨τ', a1, a2, a3⟩ := one r x hx16 T τ q1 q2
      rw [h_X9_countStretch_11, cF (nI_ge hx16 (by decide)), a1]
      refine ih (x + 1) _ τ' (by omega) a2 a3 (fun j hj hm => ?_) (fun y hy hr => ?_)
      · try dsimp only
        rw [if_neg (by omega)]
        exact q3 j hj hm
      · try dsimp only
        by_cases hyx : y = x
        · subst hyx
          rw [if_pos rfl, allS_eq hG.2.1 hne q3 hse e10, hSol y hy]
          congr 1
          refine utl_c (fun q hq g1 g2 => ?_)
          have hrk := rk_lt hG.2.1 hcy hq g2
          have htg := tg_lt (hG.2.1 q hq) g2
          rw [g1] at hrk
          exact q4 _ htg (Or.inl (by omega))
        · rw [if_neg (by omega)]
          exact q4 y hy (by omega)
  have key : ∀ (d r : Nat) (T : Nat → Int64) (τ : si_M), r + d = 16 → Arr τ 37 1936 T → KeepM [] [37, 38, 39] σ τ → Ag T T0 st e → (∀ y, y < 16 → rk G y < r → T (121 * y + 11 * st + e) = S y) → ∃ τ' T', si_sem gP nX9_countStretch 2 [.ref 29, .int (nI st), .int (nI e), .int (nI r), si_U, si_U, si_U, si_U] [] τ = some (none, τ') ∧ Arr τ' 37 1936 T' ∧ KeepM [] [37, 38, 39] σ τ' ∧ Ag T' T0 st e ∧ (∀ y, y < 16 → rk G y < 16 → T' (121 * y + 11 * st + e) = S y) := by
    intro d
    induction d with
    | zero =>
      intro r T τ hr q1 q2 q3 q4
      have : r = 16 := by omega
      subst this
      rw [h_X9_countStretch_2, cT (nI_le (Nat.le_refl _) (by decide))]
      exact ⟨τ, T, rfl, q1, q2, q3, q4⟩
    | succ d ih =>
      intro r T τ hr q1 q2 q3 q4
      obtain ⟨τ', T', t1, t2, t3, t4, t5⟩ := w11 r 16 0 T τ rfl q1 q2 q3 (fun y hy h => q4 y hy (by omega))
      rw [h_X9_countStretch_2, cF (nI_ge (show r < 16 by omega) (by decide)), t1]
      exact ih (r + 1) T' τ' (by omega) t2 t3 t4 t5
  obtain ⟨τ, T, c1, c2, c3, c4, c5⟩ := key 16 0 T0 σ rfl hT KeepM.rf (fun _ _ _ => rfl) (fun y _ h => by omega)
  refine ⟨τ, c1, c2.ext (fun j hj => ?_), c3⟩
  unfold oneT strT
  rw [hS]
  by_cases hm : j % 121 = 11 * st + e
  · rw [if_pos ⟨hm, hj⟩]
    have := c5 (j / 121) (by omega) (rk_15 hcy (by omega))
    rw [show 121 * (j / 121) + 11 * st + e = j by omega] at this
    exact this
  · rw [if_neg (fun h => hm h.1)]
    exact c4 j hj hm
theorem s_X9_trees {σ : si_M} {W : List Nat} (hW : Wok W) (hc : WM σ W) {G : List PR} (h1 : σ.1 29 1 = nI G.length) (h2 : Row (σ.2 30) G) (hG : Gok G) (hne : G.any emB = false) (hcy : cyB G = false) : ∃ τ, si_sem gP nX9_countTrees 35 [.ref 29, .int (nI 0), si_U] [] σ = some (some (.long (trA W G)), τ) ∧ KeepM [] [37, 38, 39] σ τ := by
  have hn := hW.1
  have w35 : ∀ (d i : Nat) (τ : si_M), i + d = 1936 → (∀ j, j < i → τ.2 37 j = lN 0) → KeepM [] [37, 38, 39] σ τ → ∃ τ', si_sem gP nX9_countTrees 35 [.ref 29, .int (nI i), si_U] [] τ = si_sem gP nX9_countTrees 57 [.ref 29, .int (nI 1), si_U] [] τ' ∧ Arr τ' 37 1936 (fun _ => lN 0) ∧ KeepM [] [37, 38, 39] σ τ' := by
    intro d
    induction d with
    | zero =>
      intro i τ hi hj hk
      rw [h_X9_countTrees_35, cT (nI_le (show 1936 ≤ i by omega) (by omega))]
      exact ⟨τ, rfl, fun j hj2 => hj j (by omega), hk⟩
    | succ d ih =>
      intro i τ hi hj hk
      rw [h_X9_countTrees_35, cF (nI_ge (show i < 1936 by omega) (by decide)), inT (show i < 1936 by omega) (by decide), nI_clamp (by omega), nI_add]
      refine ih (i + 1) _ (by omega) (fun j hji => ?_) (hk.tr (KeepM.cJ τ (by decide) (by decide) _ _))
      by_cases e : j = i
      · subst e; rw [sJ_same]
      · rw [sJ_nj _ _ _ e]; exact hj j (by omega)
  have mem : ∀ τ, KeepM [] [37, 38, 39] σ τ → WM τ W ∧ τ.1 29 1 = nI G.length ∧ Row (τ.2 30) G := fun τ q2 => ⟨⟨by rw [(q2.2 16 (by decide)).1]; exact hc.1, fun j hj => by rw [(q2.1 35 (by decide) (by decide)).1]; exact hc.2 j hj⟩, by rw [(q2.2 1 (by decide)).1]; exact h1, by rw [(q2.1 30 (by decide) (by decide)).2]; exact h2⟩
  have col : ∀ (z : Nat) (hz : 1 ≤ z) (hzn : z ≤ W.length) (τ : si_M) (T : Nat → Int64), Arr τ 37 1936 T → KeepM [] [37, 38, 39] σ τ → ∃ τ', si_sem gP nX9_countTrees 67 [.ref 29, .int (nI z), .int (nI 0)] [] τ = si_sem gP nX9_countTrees 57 [.ref 29, .int (nI (z + 1)), si_U] [] τ' ∧ Arr τ' 37 1936 (colT W G T z) ∧ KeepM [] [37, 38, 39] σ τ' := by
    intro z hz hzn τ T hT hk
    obtain ⟨τ2, c1, c2⟩ := lp_ex (F := fun i τ => si_sem gP nX9_countTrees 67 [.ref 29, .int (nI z), .int (nI i)] [] τ) (G := List.range (W.length + 1 - z)) (f := fun T st => oneT W G T st (st + z)) (R := fun τ T => Arr τ 37 1936 T ∧ KeepM [] [37, 38, 39] σ τ) (fun i τ T hi hR => by
      obtain ⟨r1, r2⟩ := hR
      have hi : i < W.length + 1 - z := by simpa using hi
      obtain ⟨m1, m2, m3⟩ := mem τ r2
      obtain ⟨τ3, a1, a2, a3⟩ := s_X9_countStretch hW m1 r1 m2 m3 hG hne hcy (show i < i + z by omega) (show i + z ≤ W.length by omega)
      rw [List.getElem_range]
      try dsimp only
      rw [h_X9_countTrees_67, m1.1, nI_add, nI_add, cF (nI_nlt (show i + z ≤ W.length by omega) (by omega)), a1, cv_s, nI_add]
      exact ⟨τ3, rfl, a2, r2.tr a3⟩) τ T ⟨hT, hk⟩
    obtain ⟨r1, r2⟩ := c2
    refine ⟨τ2, ?_, r1, r2⟩
    refine Eq.trans c1 ?_
    try dsimp only
    rw [List.length_range, h_X9_countTrees_67, (mem τ2 r2).1.1, nI_add, nI_add, cT (nI_lt (show W.length < W.length + 1 - z + z by omega) (by omega))]
  obtain ⟨τ1, b1, b2, b3⟩ := w35 1936 0 σ rfl (fun j hj => by omega) KeepM.rf
  obtain ⟨τ2, c1, c2⟩ := lp_ex (F := fun i τ => si_sem gP nX9_countTrees 57 [.ref 29, .int (nI (i + 1)), si_U] [] τ) (G := List.range W.length) (f := fun T z => colT W G T (z + 1)) (R := fun τ T => Arr τ 37 1936 T ∧ KeepM [] [37, 38, 39] σ τ) (fun i τ T hi hR => by
    obtain ⟨r1, r2⟩ := hR
    have hi : i < W.length := by simpa using hi
    obtain ⟨τ', a1, a2, a3⟩ := col (i + 1) (by omega) (by omega) τ T r1 r2
    rw [List.getElem_range]
    try dsimp only
    rw [h_X9_countTrees_57, (mem τ r2).1.1, cF (nI_nlt (show i + 1 ≤ W.length by omega) (by omega)), a1]
    exact ⟨τ', rfl, a2, a3⟩) τ1 (fun _ => lN 0) ⟨b2, b3⟩
  obtain ⟨r1, r2⟩ := c2
  refine ⟨τ2, ?_, r2⟩
  refine b1.trans (Eq.trans c1 ?_)
  try dsimp only
  rw [List.length_range, h_X9_countTrees_57, (mem τ2 r2).1.1, cT (nI_lt (Nat.lt_succ_self _) (by omega)), inT (show W.length < 1936 by omega) (by decide), nI_clamp (by omega), r1 _ (by omega)]
  rfl
theorem fact_countTrees (σ : si_M) (h : gI σ) : ∃ (r : Int64) (σ1 σ2 : si_M), si_sc gP nX8_countTrees (.ref 0 :: []) σ = some (some (.long r), σ1) ∧ si_sc gP nX9_countTrees (.ref 29 :: []) σ1 = some (some (.long r), σ2) ∧ gI σ2 := by
  refine fact_l h (fun A => if wdB A.1 then (if A.2.1.any emB || cyB A.2.1 then -8 else trA (wdW A.1) A.2.1) else -4) id (fun A h => h) (fun A σ hA h => ?_) (fun A σ hA h => ?_)
  · rw [e_X8_countTrees, s_X3_isWord hA h, ci_s, bn]
    cases hw : wdB A.1 with
    | false => exact ⟨σ, rfl, h, KC.rf⟩
    | true =>
      obtain ⟨τ0, a1, a2, a3⟩ := s_X8_isEndless hA h
      rw [cond_true, a1, ci_s, bz, if_pos rfl]
      cases he : (A.2.1.any emB || cyB A.2.1) with
      | true => exact ⟨τ0, rfl, a2, a3⟩
      | false =>
        obtain ⟨τ1, b1, b2, b3⟩ := s_X4_read hA a2 hw
        have hm : Gm τ1 3 (A.2.1, false) := a2.2.2.1.keep b3 (by decide) (by decide)
        obtain ⟨τ2, c1, c2⟩ := s_X4_treesOf (wd_ok hw) b2 hm hA.2.1
        have hk : Keep csc τ0 τ2 := (b3.mono (by decide)).tr c2
        rw [cond_false, b1, cv_s, c1, cl_s]
        exact ⟨τ2, rfl, a2.sc hk, a3.tr (kc_of hk)⟩
  · rw [e_X9_countTrees, s_X9_isWord hA h, ci_s, bn]
    cases hw : wdB A.1 with
    | false => exact ⟨σ, rfl, h, KM.rf⟩
    | true =>
      rw [cond_true, s_X9_hasEmpty h.2.2.1 h.2.2.2.1 hA.2.1, ci_s, bn, if_pos rfl]
      cases he : A.2.1.any emB with
      | true => exact ⟨σ, rfl, h, KM.rf⟩
      | false =>
        rw [cond_false, s_X9_hasUnitCycle hA h, ci_s, bz, Bool.false_or]
        have k0 := lm_mS (k := 40) (by decide) σ (clw (uns A.2.1))
        cases hcy : cyB A.2.1 with
        | true => exact ⟨_, rfl, h.sc k0, km_of k0⟩
        | false =>
          have hM := h.sc k0
          obtain ⟨τ1, b1, b2, b3⟩ := s_X9_takeWord hA hM hw
          have k1 : KeepM mF mS σ τ1 := k0.tr (b3.mono (by decide) (by decide))
          have hM1 := h.sc k1
          obtain ⟨τ2, c1, c2⟩ := s_X9_trees (wd_ok hw) b2 hM1.2.2.1 hM1.2.2.2.1 hA.2.1 he hcy
          have k2 : KeepM mF mS σ τ2 := k1.tr (c2.mono (by decide) (by decide))
          rw [cond_false, b1, cv_s, c1]
          exact ⟨τ2, rfl, h.sc k2, km_of k2⟩
