/-! countWords, countDifferences -/
theorem pcR_add : ∀ (a b n : Nat), pcR (a + b) n = pcR a n + pcR b (n / 2 ^ a) := by
  intro a
  induction a with
  | zero => intro b n; simp [pcR]
  | succ a ih =>
    intro b n
    rw [show a + 1 + b = (a + b) + 1 by omega]
    simp only [pcR]
    rw [ih, Nat.div_div_eq_div_mul, show 2 * 2 ^ a = 2 ^ (a + 1) by rw [Nat.pow_succ, Nat.mul_comm], Nat.add_assoc]
theorem pc8 (n : Nat) : pcR 8 (n % 256) = pcR 8 n := by
  simp only [pcR]
  omega
theorem pS_eq (n : Nat) : pS 8 n = pcR 64 n := by
  have h : ∀ k n, pS k n = pcR (8 * k) n := by
    intro k
    induction k with
    | zero => intro n; rfl
    | succ k ih =>
      intro n
      rw [show 8 * (k + 1) = 8 + 8 * k by omega, pcR_add, ← pc8, show (2 : Nat) ^ 8 = 256 from rfl, ← ih]
      rfl
  exact h 8 n
theorem pcR_cnt : ∀ (k n : Nat), pcR k n = (List.range k).countP (fun i => n.testBit i) := by
  intro k
  induction k with
  | zero => intro n; rfl
  | succ k ih =>
    intro n
    rw [List.range_succ_eq_map, List.countP_cons, List.countP_map]
    have e : (List.range k).countP ((fun i => n.testBit i) ∘ Nat.succ) = (List.range k).countP (fun i => (n / 2).testBit i) := by
      congr 1
      funext i
      exact Nat.testBit_succ n i
    have e2 : pcR (k + 1) n = n % 2 + pcR k (n / 2) := rfl
    rw [e, e2, ih, Nat.testBit_zero, Nat.add_comm]
    congr 1
    by_cases h : n % 2 = 1
    · simp [h]
    · have : n % 2 = 0 := by omega
      simp [this]
def cnt (x : Int64) : Nat := (List.range 64).countP (lb x)
theorem cnt_N {n : Nat} (_ : n < 2 ^ 64) : cnt (lN n) = pS 8 n := by
  rw [pS_eq, pcR_cnt]
  unfold cnt
  refine List.countP_congr (fun i hi => ?_)
  rw [lb_N n (List.mem_range.mp hi)]
theorem s_J13_bitCount (x : Int64) (σ : si_M) : si_sc gP nJ13_bitCount_95d88 [.long x] σ = some (some (.int (nI (cnt x))), σ) := by
  obtain ⟨n, hn, rfl⟩ := wb_of x
  rw [e_J13_bitCount_95d88, cnt_N hn, ← bc_all n hn]
  rfl
def ofL (l : Nat) (A : LT) : Int64 := if l = 0 then A.1 else if l = 1 then A.2.1 else A.2.2
def wk (l k : Nat) : List Nat := if l = 0 then [] else if l = 1 then [17 + k % 8] else [17 + k % 8, 17 + k / 8 % 8]
def wn (l : Nat) : Nat := if l = 0 then 1 else if l = 1 then 8 else 64
def ix (l k : Nat) : Nat := if l = 0 then 0 else if l = 1 then k else 8 * (k % 8) + k / 8
theorem l012 {l : Nat} (h : l ≤ 2) : l = 0 ∨ l = 1 ∨ l = 2 := by omega
theorem wk_len {l : Nat} (h : l ≤ 2) (k : Nat) : (wk l k).length = l := by rcases l012 h with rfl | rfl | rfl <;> rfl
theorem wk_ok {l : Nat} (h : l ≤ 2) (k : Nat) : Wok (wk l k) := by
  refine ⟨by rw [wk_len h]; omega, fun a ha => ?_⟩
  rcases l012 h with rfl | rfl | rfl
  · cases ha
  · have : a = 17 + k % 8 := by simpa [wk] using ha
    omega
  · have : a = 17 + k % 8 ∨ a = 17 + k / 8 % 8 := by simpa [wk] using ha
    omega
theorem wn_le {l : Nat} : wn l ≤ 64 := by unfold wn; split; decide; split <;> decide
theorem mm_wk {A : LT} (hA : Lok A) {l k : Nat} (h : l ≤ 2) (hk : k < wn l) : mm A (wk l k) = lb (ofL l A) (ix l k) := by
  rcases l012 h with rfl | rfl | rfl
  · show (!decide (A.1 = lN 0)) = lb A.1 0
    rcases hA.1 with e | e
    · rw [e, lb_0]; rfl
    · rw [e, lb_1 (by decide)]; decide
  · have hk : k < 8 := hk
    show lb A.2.1 (17 + k % 8 - 17) = lb A.2.1 k
    congr 1
    omega
  · have hk : k < 64 := hk
    show lb A.2.2 (8 * (17 + k % 8 - 17) + (17 + k / 8 % 8 - 17)) = lb A.2.2 (8 * (k % 8) + k / 8)
    congr 1
    omega
theorem of_big {A : LT} (hA : Lok A) {l : Nat} (h : l ≤ 2) {i : Nat} (hi : wn l ≤ i) : lb (ofL l A) i = false := by
  rcases l012 h with rfl | rfl | rfl
  · have hi : 1 ≤ i := hi
    show lb A.1 i = false
    rcases hA.1 with e | e
    · rw [e, lb_0]
    · rw [e]
      by_cases h64 : i < 64
      · rw [lb_1 h64]; exact decide_eq_false (by omega)
      · exact lb_big (by omega)
  · exact hA.2 i hi
  · exact lb_big hi
theorem cnt_lo {F : Nat → Bool} {n m : Nat} (h : ∀ i, n ≤ i → F i = false) : (List.range (n + m)).countP F = (List.range n).countP F := by
  rw [List.range_add, List.countP_append, List.countP_map]
  have : (List.range m).countP (F ∘ fun x => n + x) = 0 := List.countP_eq_zero.mpr (fun i _ => by
    show ¬ F (n + i) = true
    rw [h (n + i) (by omega)]
    decide)
  omega
theorem ix_perm : ((List.range 64).map (fun k => 8 * (k % 8) + k / 8)).Perm (List.range 64) := by decide +kernel
theorem cnt_ix {F : Nat → Bool} {l : Nat} (hl : l ≤ 2) (h : ∀ i, wn l ≤ i → F i = false) : (List.range (wn l)).countP (fun k => F (ix l k)) = (List.range 64).countP F := by
  rcases l012 hl with rfl | rfl | rfl
  · have := cnt_lo (F := F) (n := 1) (m := 63) h
    rw [show (64 : Nat) = 1 + 63 from rfl, this]
    rfl
  · have := cnt_lo (F := F) (n := 8) (m := 56) h
    rw [show (64 : Nat) = 8 + 56 from rfl, this]
    rfl
  · have := ix_perm.countP_eq F
    rw [List.countP_map] at this
    exact this
theorem cnt_one {A : LT} (hA : Lok A) {l : Nat} (h : l ≤ 2) : (List.range (wn l)).countP (fun k => mm A (wk l k)) = cnt (ofL l A) := by
  unfold cnt
  rw [← cnt_ix h (fun i hi => of_big hA h hi)]
  refine List.countP_congr (fun k hk => ?_)
  rw [mm_wk hA h (List.mem_range.mp hk)]
theorem cnt_two {A B : LT} (hA : Lok A) (hB : Lok B) {l : Nat} (h : l ≤ 2) : (List.range (wn l)).countP (fun k => mm A (wk l k) ^^ mm B (wk l k)) = cnt (ofL l A ^^^ ofL l B) := by
  unfold cnt
  rw [← cnt_ix h (fun i hi => by rw [lb_xor, of_big hA h hi, of_big hB h hi]; rfl)]
  refine List.countP_congr (fun k hk => ?_)
  rw [mm_wk hA h (List.mem_range.mp hk), mm_wk hB h (List.mem_range.mp hk), lb_xor]
-- the class
theorem s_X6_ofLength {σ : si_M} {L : Nat → LT} (h : A3 σ L) {l : Nat} (hl : l ≤ 2) : si_sc gP nX6_ofLength [.ref 20, .int (nI l)] σ = some (some (.long (ofL l (L 0))), σ) := by
  have h0 : (nI 0).toNatClampNeg = 0 := nI_clamp (by decide)
  rw [e_X6_ofLength, inT (show 0 < 16 by decide) (by decide), h0, h.1 0 (by decide), h.2.1 0 (by decide), h.2.2 0 (by decide)]
  rcases l012 hl with rfl | rfl | rfl
  · rw [nF rfl]; rfl
  · rw [nT (nI_eqF (by decide) (by decide) (by decide)), nF rfl]; rfl
  · rw [nT (nI_eqF (by decide) (by decide) (by decide)), nT (nI_eqF (by decide) (by decide) (by decide))]; rfl
-- the model
theorem s_X9_wordsOf {l : Nat} (hl : l ≤ 2) (σ : si_M) : si_sc gP nX9_wordsOf [.int (nI l)] σ = some (some (.int (nI (wn l))), σ) := by
  rw [e_X9_wordsOf]
  rcases l012 hl with rfl | rfl | rfl
  · rw [nF rfl]; rfl
  · rw [nT (nI_eqF (by decide) (by decide) (by decide)), nF rfl]; rfl
  · rw [nT (nI_eqF (by decide) (by decide) (by decide)), nT (nI_eqF (by decide) (by decide) (by decide))]; rfl
theorem lay_1 {l i k : Nat} (hi : i < l) (hl : l ≤ 2) (hk : k < 64) (σ : si_M) : si_sem gP nX9_layWord 10 [.ref 29, .int (nI l), si_U, .int (nI k), .int (nI i)] [] σ = si_sem gP nX9_layWord 10 [.ref 29, .int (nI l), si_U, .int (nI (k / 8)), .int (nI (i + 1))] [] (si_sI σ 35 i (nI (17 + k % 8))) := by
  rw [h_X9_layWord_10, cF (nI_ge hi (by omega)), nT (by decide), inT (by omega) (by decide), nT (by decide), nI_clamp (by omega), show si_irem (nI k) (nI 8) = nI (k % 8) from pk_rem (by omega) (by decide) (by decide), pk_div (by omega) (by decide) (by decide), nI_add, nI_add]
theorem lay_e {l : Nat} (hl : l ≤ 2) (x : Int32) (σ : si_M) : si_sem gP nX9_layWord 10 [.ref 29, .int (nI l), si_U, .int x, .int (nI l)] [] σ = some (some (.int (nI l)), σ) := by
  rw [h_X9_layWord_10, cT (nI_le (Nat.le_refl _) (by omega))]
theorem s_X9_layWord {l k : Nat} (hl : l ≤ 2) (hk : k < 64) (σ : si_M) : ∃ τ, si_sc gP nX9_layWord [.ref 29, .int (nI l), .int (nI k)] σ = some (some (.int (nI l)), τ) ∧ WM τ (wk l k) ∧ KeepM [16] [35] σ τ := by
  rw [e_X9_layWord]
  have k0 : KeepM [16] [35] σ (si_sI σ 29 16 (nI l)) := KeepM.sI σ (by decide) _
  rcases l012 hl with rfl | rfl | rfl
  · refine ⟨_, lay_e (l := 0) (by decide) _ _, ⟨?_, fun j hj => ?_⟩, k0⟩
    · rw [sI_same]; rfl
    · exact absurd hj (Nat.not_lt_zero j)
  · rw [lay_1 (l := 1) (i := 0) (by decide) (by decide) hk]
    refine ⟨_, lay_e (l := 1) (by decide) _ _, ⟨?_, fun j hj => ?_⟩, k0.tr (KeepM.cI _ (by decide) (by decide) _ _)⟩
    · rw [sI_ne _ _ _ (by decide), sI_same]; rfl
    · have hj : j < 1 := hj
      have : j = 0 := by omega
      subst this
      rw [sI_same]
      rfl
  · rw [lay_1 (l := 2) (i := 0) (by decide) (by decide) hk, lay_1 (l := 2) (i := 1) (by decide) (by decide) (by omega)]
    refine ⟨_, lay_e (l := 2) (by decide) _ _, ⟨?_, fun j hj => ?_⟩, (k0.tr (KeepM.cI _ (by decide) (by decide) _ _)).tr (KeepM.cI _ (by decide) (by decide) _ _)⟩
    · rw [sI_ne _ _ _ (by decide), sI_ne _ _ _ (by decide), sI_same]; rfl
    · have hj : j < 2 := hj
      rcases Nat.lt_or_ge j 1 with h1 | h1
      · have : j = 0 := by omega
        subst this
        rw [sI_nj _ _ _ (by decide), sI_same]
        rfl
      · have : j = 1 := by omega
        subst this
        rw [sI_same]
        rfl
theorem s_X9_countNow {σ : si_M} {A : AS} (hA : Aok A) (h : MI σ A) {l : Nat} (hl : l ≤ 2) (d : Bool) (T : List PR) (hT : d = true → A.2.2 = some T) : ∃ τ, si_sc gP nX9_countNow [.ref 29, .int (nI l), .int (bI d)] σ = some (some (.int (nI ((List.range (wn l)).countP (fun k => dvB (wk l k) A.2.1 ^^ (d && dvB (wk l k) T))))), τ) ∧ KeepM [16] [35, 36] σ τ := by
  have hw := wn_le (l := l)
  have key : ∀ (m k c : Nat) (τ : si_M), k + m = wn l → c ≤ k → KeepM [16] [35, 36] σ τ → ∃ τ', si_sem gP nX9_countNow 5 [.ref 29, .int (nI l), .int (bI d), .int (nI c), .int (nI k), si_U, si_U, si_U] [] τ = some (some (.int (nI (c + (List.range' k m).countP (fun k => dvB (wk l k) A.2.1 ^^ (d && dvB (wk l k) T))))), τ') ∧ KeepM [16] [35, 36] σ τ' := by
    intro m
    induction m with
    | zero =>
      intro k c τ hk _ hK
      rw [h_X9_countNow_5, s_X9_wordsOf hl, ci_s, cT (nI_le (show wn l ≤ k by omega) (by omega))]
      exact ⟨τ, rfl, hK⟩
    | succ m ih =>
      intro k c τ hk hck hK
      obtain ⟨τ1, a1, a2, a3⟩ := s_X9_layWord hl (show k < 64 by omega) τ
      have K1 := hK.tr (a3.mono (F' := [16]) (S' := [35, 36]) (by decide) (by decide))
      have h1 := h.sc (K1.mono (F' := mF) (S' := mS) (by decide) (by decide))
      obtain ⟨τ2, b1, b2⟩ := s_X9_derives (Or.inl rfl) h1.2.2.2.1 hA.2.1 (wk_ok hl k) a2
      have K2 := K1.tr (b2.mono (F' := [16]) (S' := [35, 36]) (by decide) (by decide))
      have h2 := h.sc (K2.mono (F' := mF) (S' := mS) (by decide) (by decide))
      have a2' : WM τ2 (wk l k) := ⟨by rw [(b2.2 16 (by decide)).1]; exact a2.1, fun j hj => by rw [(b2.1 35 (by decide) (by decide)).1]; exact a2.2 j hj⟩
      rw [h_X9_countNow_5, s_X9_wordsOf hl, ci_s, cF (nI_ge (show k < wn l by omega) (by omega)), a1, ci_s, h1.2.2.1, b1, ci_s, bz, nI_add, nI_add, nI_add, List.range'_succ, List.countP_cons]
      cases d with
      | false =>
        rw [cond_false, bz]
        cases hd : dvB (wk l k) A.2.1 with
        | false =>
          obtain ⟨τ', e1, e2⟩ := ih (k + 1) (c + 0) τ2 (by omega) (by omega) K2
          rw [cond_false, e1]
          exact ⟨τ', by simp, e2⟩
        | true =>
          obtain ⟨τ', e1, e2⟩ := ih (k + 1) (c + 1) τ2 (by omega) (by omega) K2
          rw [cond_true, e1]
          refine ⟨τ', ?_, e2⟩
          congr 4
          refine congrArg nI ?_
          simp
          omega
      | true =>
        have hT' := hT rfl
        have h3 := h2.2.2.2.2
        rw [hT'] at h3
        obtain ⟨τ3, c1, c2⟩ := s_X9_derives (Or.inr rfl) h3.2.2 (hA.2.2 T hT') (wk_ok hl k) a2'
        have K3 := K2.tr (c2.mono (F' := [16]) (S' := [35, 36]) (by decide) (by decide))
        rw [cond_true, h3.2.1, c1, ci_s, bz]
        obtain ⟨τ', e1, e2⟩ := ih (k + 1) (c + 0) τ3 (by omega) (by omega) K3
        obtain ⟨τ'', f1, f2⟩ := ih (k + 1) (c + 1) τ3 (by omega) (by omega) K3
        cases hd : dvB (wk l k) A.2.1 with
        | false =>
          cases hd2 : dvB (wk l k) T with
          | false =>
            rw [cond_false, bz, cond_false, e1]
            exact ⟨τ', by simp, e2⟩
          | true =>
            rw [cond_true, cF (show ¬ bI false = nI 1 by decide), f1]
            refine ⟨τ'', ?_, f2⟩
            congr 4
            refine congrArg nI ?_
            simp
            omega
        | true =>
          cases hd2 : dvB (wk l k) T with
          | false =>
            rw [cond_false, bz, cond_true, f1]
            refine ⟨τ'', ?_, f2⟩
            congr 4
            refine congrArg nI ?_
            simp
            omega
          | true =>
            rw [cond_true, cT (show bI true = nI 1 by decide), e1]
            exact ⟨τ', by simp, e2⟩
  obtain ⟨τ', e1, e2⟩ := key (wn l) 0 0 σ (by omega) (by omega) KeepM.rf
  rw [e_X9_countNow, e1, Nat.zero_add, List.range_eq_range']
  exact ⟨τ', rfl, e2⟩
/-- the number of words of A with that length -/
def cwN (l : Nat) (G : List PR) : Nat := cnt (ofL l (shW G 0))
theorem m_cw {σ : si_M} {A : AS} (hA : Aok A) (h : MI σ A) {l : Nat} (hl : l ≤ 2) : ∃ τ, si_sc gP nX9_countNow [.ref 29, .int (nI l), .int (nI 0)] σ = some (some (.int (nI (cwN l A.2.1))), τ) ∧ KeepM mF mS σ τ ∧ τ.2 29 28 = σ.2 29 28 := by
  obtain ⟨τ, e1, e2⟩ := s_X9_countNow hA h hl false [] (fun h => by cases h)
  refine ⟨τ, ?_, e2.mono (by decide) (by decide), (e2.2 28 (by decide)).2⟩
  rw [show nI 0 = bI false from rfl, e1]
  unfold cwN
  rw [← cnt_one (sh_ok hA.2.1.2.1 0) hl]
  congr 4
  refine congrArg nI ?_
  refine List.countP_congr (fun k _ => ?_)
  rw [dv_mm (wk_ok hl k) (by rw [wk_len hl]; exact hl) hA.2.1.2.1, Bool.false_and, Bool.xor_false]
theorem c_cw {σ : si_M} {A : AS} (hA : Aok A) (h : CI σ A) : ∃ τ, si_sc gP nX6_study [.ref 20, .ref 3] σ = some (none, τ) ∧ A3 τ (shW A.2.1) ∧ Keep csc σ τ := by
  obtain ⟨τ, e1, e2, e3⟩ := s_X6_study (Or.inl rfl) h.2.2.1 hA.2.1
  exact ⟨τ, e1, e2, e3.mono (by decide)⟩
theorem in012 (a : Int32) : (¬ (nI 0 ≤ a ∧ a ≤ nI 2)) ∨ ∃ l, l ≤ 2 ∧ a = nI l := by
  by_cases h : nI 0 ≤ a ∧ a ≤ nI 2
  · obtain ⟨j, hj, e⟩ := nI_of (x := a) (Int32.not_lt.mpr h.1)
    refine Or.inr ⟨j, ?_, e⟩
    rw [e] at h
    exact (nI_leI hj (by decide)).mp h.2
  · exact Or.inl h
theorem le012 {l : Nat} (hl : l ≤ 2) : nI 0 ≤ nI l ∧ nI l ≤ nI 2 := ⟨nI_le (by omega) (by omega), nI_le hl (by decide)⟩
theorem fact_countWords (a : Int32) (σ : si_M) (h : gI σ) : ∃ (r : Int32) (σ1 σ2 : si_M), si_sc gP nX8_countWords (.ref 0 :: [.int a]) σ = some (some (.int r), σ1) ∧ si_sc gP nX9_countWords (.ref 29 :: [.int a]) σ1 = some (some (.int r), σ2) ∧ gI σ2 := by
  refine fact_i h (fun A => if nI 0 ≤ a ∧ a ≤ nI 2 then nI (cwN a.toNatClampNeg A.2.1) else -6) id (fun A h => h) (fun A σ hA h => ?_) (fun A σ hA h => ?_)
  · rw [e_X8_countWords]
    rcases in012 a with hn | ⟨l, hl, rfl⟩
    · rw [if_neg hn]
      by_cases h1 : a < nI 0
      · rw [cT h1]; exact ⟨σ, rfl, h, KC.rf⟩
      · rw [cF h1, cF (fun h2 => hn ⟨Int32.not_lt.mp h1, h2⟩)]; exact ⟨σ, rfl, h, KC.rf⟩
    · obtain ⟨τ, t1, t2, t3⟩ := c_cw hA h
      have hh := le012 hl
      rw [if_pos hh, cF (Int32.not_lt.mpr hh.1), cT hh.2, t1, cv_s, s_X6_ofLength t2 hl, cl_s, s_J13_bitCount, ci_s, nI_clamp (by omega)]
      exact ⟨τ, rfl, h.sc t3, kc_of t3⟩
  · rw [e_X9_countWords, s_X9_within, ci_s, bz]
    rcases in012 a with hn | ⟨l, hl, rfl⟩
    · have : (decide (nI 0 ≤ a) && decide (a ≤ nI 2)) = false := by
        rw [← Bool.not_eq_true, Bool.and_eq_true, decide_eq_true_eq, decide_eq_true_eq]
        exact hn
      rw [if_neg hn, this, cond_false]
      exact ⟨σ, rfl, h, KM.rf⟩
    · obtain ⟨τ, t1, t2, _⟩ := m_cw hA h hl
      have hh := le012 hl
      rw [if_pos hh, decide_eq_true hh.1, decide_eq_true hh.2, Bool.and_self, cond_true, t1, ci_s, nI_clamp (by omega)]
      exact ⟨τ, rfl, h.sc t2, km_of t2⟩
theorem fact_countDifferences (a : Int32) (σ : si_M) (h : gI σ) : ∃ (r : Int32) (σ1 σ2 : si_M), si_sc gP nX8_countDifferences (.ref 0 :: [.int a]) σ = some (some (.int r), σ1) ∧ si_sc gP nX9_countDifferences (.ref 29 :: [.int a]) σ1 = some (some (.int r), σ2) ∧ gI σ2 := by
  refine fact_i h (fun A => if nI 0 ≤ a ∧ a ≤ nI 2 then (match A.2.2 with
    | none => -9
    | some T => nI (cnt (ofL a.toNatClampNeg (shW A.2.1 0) ^^^ ofL a.toNatClampNeg (shW T 0)))) else -6) id (fun A h => h) (fun A σ hA h => ?_) (fun A σ hA h => ?_)
  · rw [e_X8_countDifferences]
    rcases in012 a with hn | ⟨l, hl, rfl⟩
    · rw [if_neg hn]
      by_cases h1 : a < nI 0
      · rw [cT h1]; exact ⟨σ, rfl, h, KC.rf⟩
      · rw [cF h1, cF (fun h2 => hn ⟨Int32.not_lt.mp h1, h2⟩)]; exact ⟨σ, rfl, h, KC.rf⟩
    · have hh := le012 hl
      have h7 := h.2.2.2
      rw [if_pos hh, cF (Int32.not_lt.mpr hh.1), cT hh.2]
      cases hT : A.2.2 with
      | none =>
        rw [hT] at h7
        rw [nF h7]
        exact ⟨σ, rfl, h, KC.rf⟩
      | some T =>
        rw [hT] at h7
        obtain ⟨τ, t1, t2, t3⟩ := c_cw hA h
        have h8 := h.sc t3
        have h9 := h8.2.2.2
        rw [hT] at h9
        obtain ⟨ρ, u1, u2, u3⟩ := s_X6_study (Or.inr rfl) h9.2 (hA.2.2 T hT)
        have u4 : Keep csc τ ρ := u3.mono (by decide)
        rw [h7.1, nT (by decide), t1, cv_s, s_X6_ofLength t2 hl, cl_s, u1, cv_s, s_X6_ofLength u2 hl, cl_s, s_J13_bitCount, ci_s, nI_clamp (by omega)]
        exact ⟨ρ, rfl, h8.sc u4, (kc_of t3).tr (kc_of u4)⟩
  · rw [e_X9_countDifferences, s_X9_within, ci_s, bn]
    rcases in012 a with hn | ⟨l, hl, rfl⟩
    · have : (decide (nI 0 ≤ a) && decide (a ≤ nI 2)) = false := by
        rw [← Bool.not_eq_true, Bool.and_eq_true, decide_eq_true_eq, decide_eq_true_eq]
        exact hn
      rw [if_neg hn, this, cond_false]
      exact ⟨σ, rfl, h, KM.rf⟩
    · have hh := le012 hl
      have h7 := h.2.2.2.2
      rw [if_pos hh, decide_eq_true hh.1, decide_eq_true hh.2, Bool.and_self, cond_true]
      cases hT : A.2.2 with
      | none =>
        rw [hT] at h7
        rw [cT h7]
        exact ⟨σ, rfl, h, KM.rf⟩
      | some T =>
        rw [hT] at h7
        obtain ⟨τ, t1, t2⟩ := s_X9_countNow hA h hl true T (fun _ => hT)
        rw [h7.1, cF (by decide), show nI 1 = bI true from rfl, t1, ci_s, nI_clamp (by omega)]
        have t3 : KeepM mF mS _ τ := t2.mono (by decide) (by decide)
        refine ⟨τ, ?_, h.sc t3, km_of t3⟩
        show _ = some (some (Value.int (nI (cnt (ofL l (shW A.2.1 0) ^^^ ofL l (shW T 0))))), τ)
        rw [← cnt_two (sh_ok hA.2.1.2.1 0) (sh_ok (hA.2.2 T hT).2.1 0) hl]
        congr 4
        refine congrArg nI ?_
        refine List.countP_congr (fun k _ => ?_)
        rw [dv_mm (wk_ok hl k) (by rw [wk_len hl]; exact hl) hA.2.1.2.1, dv_mm (wk_ok hl k) (by rw [wk_len hl]; exact hl) (hA.2.2 T hT).2.1, Bool.true_and]
