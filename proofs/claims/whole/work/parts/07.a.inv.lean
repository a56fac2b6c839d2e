/-! WHAT HOLDS BETWEEN CALLS: the buffer B, the grammar G, the saved one T, in the class's cells and in the model's -/
def Cds (f : Nat → Int32) (B : List Nat) : Prop := ∀ i c, B[i]? = some c → f i = nI c
def Bok (B : List Nat) : Prop := B.length ≤ 60 ∧ ∀ c ∈ B, 32 ≤ c ∧ c ≤ 126
abbrev AS : Type := List Nat × List PR × Option (List PR)
def Aok (A : AS) : Prop := Bok A.1 ∧ Gok A.2.1 ∧ ∀ T, A.2.2 = some T → Gok T
/-- the class's cells (0 to 28) -/
def CI (σ : si_M) (A : AS) : Prop := σ.1 1 1 = nI A.1.length ∧ Cds (σ.1 2) A.1 ∧ Gm σ 3 (A.2.1, false) ∧ (match A.2.2 with
  | none => σ.1 0 3 = nI 0
  | some T => σ.1 0 3 = nI 1 ∧ Gm σ 5 (T, false))
/-- the model's cells (29 to 44) -/
def MI (σ : si_M) (A : AS) : Prop := σ.1 29 5 = nI A.1.length ∧ Cds (σ.1 32) A.1 ∧ σ.1 29 1 = nI A.2.1.length ∧ Row (σ.2 30) A.2.1 ∧ (match A.2.2 with
  | none => σ.1 29 4 = nI 0
  | some T => σ.1 29 4 = nI 1 ∧ σ.1 29 3 = nI T.length ∧ Row (σ.2 31) T)
def gI (σ : si_M) : Prop := ∃ A : AS, Aok A ∧ CI σ A ∧ MI σ A
theorem gI0 : gI g0 := by
  refine ⟨([], [], none), ⟨⟨by simp, fun c h => by cases h⟩, Gok.nil, fun T h => by cases h⟩, ⟨rfl, fun i c h => by simp at h, ⟨rfl, rfl, fun i q h => by simp at h⟩, rfl⟩, ⟨rfl, fun i c h => by simp at h, rfl, fun i q h => by simp at h, rfl⟩⟩
/-- nothing of the other's cells has changed -/
def KC (σ τ : si_M) : Prop := ∀ k, 29 ≤ k → τ.1 k = σ.1 k ∧ τ.2 k = σ.2 k
def KM (σ τ : si_M) : Prop := ∀ k, k < 29 → τ.1 k = σ.1 k ∧ τ.2 k = σ.2 k
theorem KC.rf {σ : si_M} : KC σ σ := fun _ _ => ⟨rfl, rfl⟩
theorem KM.rf {σ : si_M} : KM σ σ := fun _ _ => ⟨rfl, rfl⟩
theorem KC.tr {σ τ ρ : si_M} (h1 : KC σ τ) (h2 : KC τ ρ) : KC σ ρ := fun k hk => ⟨(h2 k hk).1.trans (h1 k hk).1, (h2 k hk).2.trans (h1 k hk).2⟩
theorem KM.tr {σ τ ρ : si_M} (h1 : KM σ τ) (h2 : KM τ ρ) : KM σ ρ := fun k hk => ⟨(h2 k hk).1.trans (h1 k hk).1, (h2 k hk).2.trans (h1 k hk).2⟩
theorem Keep.KC {S : List Nat} {σ τ : si_M} (h : Keep S σ τ) (hs : ∀ k ∈ S, k < 29) : KC σ τ := fun k hk => h k (fun hh => by have := hs k hh; omega)
theorem KeepM.KM {F S : List Nat} {σ τ : si_M} (h : KeepM F S σ τ) (hs : ∀ k ∈ S, 29 ≤ k) : KM σ τ := fun k hk => h.1 k (by omega) (fun hh => by have := hs k hh; omega)
theorem KC.sI (σ : si_M) {k : Nat} (hk : k < 29) (j : Nat) (v : Int32) : KC σ (si_sI σ k j v) := fun a ha => ⟨sI_ne σ j v (by omega), rfl⟩
theorem KM.sI (σ : si_M) {k : Nat} (hk : 29 ≤ k) (j : Nat) (v : Int32) : KM σ (si_sI σ k j v) := fun a ha => ⟨sI_ne σ j v (by omega), rfl⟩
theorem MI.keep {σ τ : si_M} {A : AS} (h : MI σ A) (hk : KC σ τ) : MI τ A := by
  unfold MI
  rw [(hk 29 (by decide)).1, (hk 32 (by decide)).1, (hk 30 (by decide)).2, (hk 31 (by decide)).2]
  exact h
theorem CI.keep {σ τ : si_M} {A : AS} (h : CI σ A) (hk : KM σ τ) : CI τ A := by
  unfold CI Gm
  rw [(hk 1 (by decide)).1, (hk 2 (by decide)).1, (hk 3 (by decide)).1, (hk (3 + 1) (by decide)).2, (hk 0 (by decide)).1, (hk 5 (by decide)).1, (hk (5 + 1) (by decide)).2]
  exact h
theorem CI.gs {σ τ : si_M} {A : AS} {Z : List Nat} (h : CI σ A) (hk : Keep Z σ τ) (h0 : 0 ∉ Z) (h3 : 3 ∉ Z) (h4 : 4 ∉ Z) (h5 : 5 ∉ Z) (h6 : 6 ∉ Z) : Gm τ 3 (A.2.1, false) ∧ (match A.2.2 with
  | none => τ.1 0 3 = nI 0
  | some T => τ.1 0 3 = nI 1 ∧ Gm τ 5 (T, false)) := by
  refine ⟨h.2.2.1.keep hk h3 h4, ?_⟩
  have h7 := h.2.2.2
  cases hT : A.2.2 with
  | none => rw [hT] at h7; show τ.1 0 3 = nI 0; rw [(hk 0 h0).1]; exact h7
  | some T => rw [hT] at h7; exact ⟨by rw [(hk 0 h0).1]; exact h7.1, h7.2.keep hk h5 h6⟩
/-- class and model, each by itself, to the same answer and the same state -/
theorem fact_i {k8 k9 : Nat} {as : List Value} {σ : si_M} (h : gI σ) (ans : AS → Int32) (nxt : AS → AS)
    (hA : ∀ A, Aok A → Aok (nxt A)) (hc : ∀ A σ, Aok A → CI σ A → ∃ τ, si_sc gP k8 (.ref 0 :: as) σ = some (some (.int (ans A)), τ) ∧ CI τ (nxt A) ∧ KC σ τ)
    (hm : ∀ A σ, Aok A → MI σ A → ∃ τ, si_sc gP k9 (.ref 29 :: as) σ = some (some (.int (ans A)), τ) ∧ MI τ (nxt A) ∧ KM σ τ) :
    ∃ (r : Int32) (σ1 σ2 : si_M), si_sc gP k8 (.ref 0 :: as) σ = some (some (.int r), σ1) ∧ si_sc gP k9 (.ref 29 :: as) σ1 = some (some (.int r), σ2) ∧ gI σ2 := by
  obtain ⟨A, hok, h1, h2⟩ := h
  obtain ⟨τ, a1, a2, a3⟩ := hc A σ hok h1
  obtain ⟨ρ, b1, b2, b3⟩ := hm A τ hok (h2.keep a3)
  exact ⟨_, τ, ρ, a1, b1, nxt A, hA A hok, a2.keep b3, b2⟩
theorem fact_l {k8 k9 : Nat} {as : List Value} {σ : si_M} (h : gI σ) (ans : AS → Int64) (nxt : AS → AS)
    (hA : ∀ A, Aok A → Aok (nxt A)) (hc : ∀ A σ, Aok A → CI σ A → ∃ τ, si_sc gP k8 (.ref 0 :: as) σ = some (some (.long (ans A)), τ) ∧ CI τ (nxt A) ∧ KC σ τ)
    (hm : ∀ A σ, Aok A → MI σ A → ∃ τ, si_sc gP k9 (.ref 29 :: as) σ = some (some (.long (ans A)), τ) ∧ MI τ (nxt A) ∧ KM σ τ) :
    ∃ (r : Int64) (σ1 σ2 : si_M), si_sc gP k8 (.ref 0 :: as) σ = some (some (.long r), σ1) ∧ si_sc gP k9 (.ref 29 :: as) σ1 = some (some (.long r), σ2) ∧ gI σ2 := by
  obtain ⟨A, hok, h1, h2⟩ := h
  obtain ⟨τ, a1, a2, a3⟩ := hc A σ hok h1
  obtain ⟨ρ, b1, b2, b3⟩ := hm A τ hok (h2.keep a3)
  exact ⟨_, τ, ρ, a1, b1, nxt A, hA A hok, a2.keep b3, b2⟩
-- append
def appA (c : Int32) (A : AS) : AS := if nI 32 ≤ c ∧ c ≤ nI 126 ∧ A.1.length < 60 then (A.1 ++ [c.toNatClampNeg], A.2) else A
def appR (c : Int32) (A : AS) : Int32 := if nI 32 ≤ c ∧ c ≤ nI 126 then (if A.1.length < 60 then nI (A.1.length + 1) else -3) else -2
theorem code_of {c : Int32} (h1 : nI 32 ≤ c) (h2 : c ≤ nI 126) : c = nI c.toNatClampNeg ∧ 32 ≤ c.toNatClampNeg ∧ c.toNatClampNeg ≤ 126 := by
  obtain ⟨j, hj, rfl⟩ := nI_of (x := c) (fun h => by
    have a := Int32.lt_of_lt_of_le (Int32.lt_of_lt_of_le h (show (0 : Int32) ≤ nI 32 by decide)) h1
    exact Int32.lt_irrefl a)
  rw [nI_clamp hj]
  exact ⟨rfl, (nI_leI (by decide) hj).mp h1, (nI_leI hj (by decide)).mp h2⟩
theorem Cds.snoc {f : Nat → Int32} {B : List Nat} {c : Nat} (h : Cds f B) : Cds (fun j => if j = B.length then nI c else f j) (B ++ [c]) := by
  intro i d hd
  by_cases hi : i < B.length
  · rw [List.getElem?_append_left hi] at hd
    show (if i = B.length then nI c else f i) = nI d
    rw [if_neg (by omega)]
    exact h i d hd
  · have h2 := (List.getElem?_eq_some_iff.mp hd).1
    rw [List.length_append, List.length_singleton] at h2
    have e : i = B.length := by omega
    subst e
    rw [List.getElem?_concat_length] at hd
    cases hd
    show (if B.length = B.length then nI c else f B.length) = nI c
    rw [if_pos rfl]
theorem ok_append (c : Int32) (A : AS) (h : Aok A) : Aok (appA c A) := by
  unfold appA
  split
  · rename_i hc
    obtain ⟨h1, h2, h3⟩ := hc
    have hk := code_of h1 h2
    refine ⟨⟨by rw [List.length_append, List.length_singleton]; omega, fun d hd => ?_⟩, h.2⟩
    rcases List.mem_append.mp hd with hd | hd
    · exact h.1.2 d hd
    · rw [List.mem_singleton.mp hd]
      exact hk.2
  · exact h
theorem c_append (c : Int32) (A : AS) (σ : si_M) (hA : Aok A) (h : CI σ A) : ∃ τ, si_sc gP nX8_append (.ref 0 :: [.int c]) σ = some (some (.int (appR c A)), τ) ∧ CI τ (appA c A) ∧ KC σ τ := by
  have hl := hA.1.1
  rw [e_X8_append]
  unfold appR appA
  by_cases h1 : nI 32 ≤ c
  · rw [cF (Int32.not_lt.mpr h1)]
    by_cases h2 : c ≤ nI 126
    · rw [cT h2, e_X3_put, h.1]
      by_cases h3 : A.1.length < 60
      · rw [cT (nI_lt h3 (by decide)), inT h3 (by decide), ci_s, cF (by decide), e_X3_length, ci_s, sI_same, nI_add, nI_clamp (by omega), if_pos ⟨h1, h2⟩, if_pos h3, if_pos ⟨h1, h2, h3⟩]
        have hk : Keep [1, 2] σ (si_sI (si_sI σ 2 A.1.length c) 1 1 (nI (A.1.length + 1))) := (Keep.sI σ (by simp) _ _).tr (Keep.sI _ (by simp) _ _)
        refine ⟨_, rfl, ⟨?_, ?_, h.gs hk (by decide) (by decide) (by decide) (by decide) (by decide)⟩, hk.KC (by decide)⟩
        · rw [sI_same, List.length_append]; rfl
        · rw [sI_ne _ _ _ (by decide)]
          have e := Cds.snoc (c := c.toNatClampNeg) h.2.1
          rw [← (code_of h1 h2).1] at e
          intro i d hd
          rw [← e i d hd]
          simp [si_sI]
      · rw [cF (nI_nlt (by omega) (by omega)), ci_s, cT rfl, if_pos ⟨h1, h2⟩, if_neg h3, if_neg (fun e => h3 e.2.2)]
        exact ⟨σ, rfl, h, KC.rf⟩
    · rw [cF h2, if_neg (fun e => h2 e.2), if_neg (fun e => h2 e.2.1)]
      exact ⟨σ, rfl, h, KC.rf⟩
  · rw [cT (Int32.not_le.mp h1), if_neg (fun e => h1 e.1), if_neg (fun e => h1 e.1)]
    exact ⟨σ, rfl, h, KC.rf⟩
theorem m_append (c : Int32) (A : AS) (σ : si_M) (hA : Aok A) (h : MI σ A) : ∃ τ, si_sc gP nX9_append (.ref 29 :: [.int c]) σ = some (some (.int (appR c A)), τ) ∧ MI τ (appA c A) ∧ KM σ τ := by
  have hl := hA.1.1
  rw [e_X9_append, s_X9_within, ci_s]
  unfold appR appA
  by_cases h1 : nI 32 ≤ c
  · by_cases h2 : c ≤ nI 126
    · rw [decide_eq_true h1, decide_eq_true h2, nT (by decide), h.1]
      by_cases h3 : A.1.length < 60
      · rw [nT (nI_eqF (by omega) (by omega) (by decide)), inT h3 (by decide), nI_add, nI_clamp (by omega), if_pos ⟨h1, h2⟩, if_pos h3, if_pos ⟨h1, h2, h3⟩]
        have hk : KeepM [5] [32] σ (si_sI (si_sI σ 32 A.1.length c) 29 5 (nI (A.1.length + 1))) := (KeepM.cI σ (by simp) (by decide) _ _).tr (KeepM.sI _ (by simp) _)
        refine ⟨_, rfl, ⟨?_, ?_, ?_, ?_, ?_⟩, hk.KM (by decide)⟩
        · rw [sI_same, List.length_append]; rfl
        · rw [sI_ne _ _ _ (by decide)]
          have e := Cds.snoc (c := c.toNatClampNeg) h.2.1
          rw [← (code_of h1 h2).1] at e
          intro i d hd
          rw [← e i d hd]
          simp [si_sI]
        · rw [(hk.2 1 (by decide)).1]; exact h.2.2.1
        · exact h.2.2.2.1
        · have h7 := h.2.2.2.2
          cases hT : A.2.2 with
          | none => rw [hT] at h7; show _ = _; rw [(hk.2 4 (by decide)).1]; exact h7
          | some T => rw [hT] at h7; exact ⟨by rw [(hk.2 4 (by decide)).1]; exact h7.1, by rw [(hk.2 3 (by decide)).1]; exact h7.2.1, h7.2.2⟩
      · have h9 : A.1.length = 60 := by omega
        rw [nF (by rw [h9]), if_pos ⟨h1, h2⟩, if_neg h3, if_neg (fun e => h3 e.2.2)]
        exact ⟨σ, rfl, h, KM.rf⟩
    · rw [decide_eq_false h2, Bool.and_false, nF (show bI false = nI 0 from rfl), if_neg (fun e => h2 e.2), if_neg (fun e => h2 e.2.1)]
      exact ⟨σ, rfl, h, KM.rf⟩
  · rw [decide_eq_false h1, Bool.false_and, nF (show bI false = nI 0 from rfl), if_neg (fun e => h1 e.1), if_neg (fun e => h1 e.1)]
    exact ⟨σ, rfl, h, KM.rf⟩
/-- fact 0 -/
theorem fact_append (a : Int32) (σ : si_M) (h : gI σ) : ∃ (r : Int32) (σ1 σ2 : si_M), si_sc gP nX8_append (.ref 0 :: [.int a]) σ = some (some (.int r), σ1) ∧ si_sc gP nX9_append (.ref 29 :: [.int a]) σ1 = some (some (.int r), σ2) ∧ gI σ2 :=
  fact_i h (appR a) (appA a) (ok_append a) (c_append a) (m_append a)
-- clearInput
theorem MI.fs {σ τ : si_M} {A : AS} {F S : List Nat} (h : MI σ A) (hk : KeepM F S σ τ) (h1 : 1 ∉ F) (h3 : 3 ∉ F) (h4 : 4 ∉ F) (h30 : 30 ∉ S) (h31 : 31 ∉ S) : τ.1 29 1 = nI A.2.1.length ∧ Row (τ.2 30) A.2.1 ∧ (match A.2.2 with
  | none => τ.1 29 4 = nI 0
  | some T => τ.1 29 4 = nI 1 ∧ τ.1 29 3 = nI T.length ∧ Row (τ.2 31) T) := by
  refine ⟨by rw [(hk.2 1 h1).1]; exact h.2.2.1, by rw [(hk.1 30 (by decide) h30).2]; exact h.2.2.2.1, ?_⟩
  have h7 := h.2.2.2.2
  cases hT : A.2.2 with
  | none => rw [hT] at h7; show _ = _; rw [(hk.2 4 h4).1]; exact h7
  | some T => rw [hT] at h7; exact ⟨by rw [(hk.2 4 h4).1]; exact h7.1, by rw [(hk.2 3 h3).1]; exact h7.2.1, by rw [(hk.1 31 (by decide) h31).2]; exact h7.2.2⟩
theorem Cds.nil (f : Nat → Int32) : Cds f [] := fun i c h => by simp at h
theorem ok_clear (A : AS) (h : Aok A) : Aok ([], A.2) := ⟨⟨by simp, fun c hc => by cases hc⟩, h.2⟩
theorem fact_clearInput (σ : si_M) (h : gI σ) : ∃ (r : Int32) (σ1 σ2 : si_M), si_sc gP nX8_clearInput (.ref 0 :: []) σ = some (some (.int r), σ1) ∧ si_sc gP nX9_clearInput (.ref 29 :: []) σ1 = some (some (.int r), σ2) ∧ gI σ2 := by
  refine fact_i h (fun A => nI A.1.length) (fun A => ([], A.2)) ok_clear (fun A σ hA h => ?_) (fun A σ hA h => ?_)
  · rw [e_X8_clearInput, e_X3_length, ci_s, e_X3_clear, cv_s, h.1]
    have hk : Keep [1] σ (si_sI σ 1 1 (nI 0)) := Keep.sI σ (by simp) _ _
    exact ⟨_, rfl, ⟨by rw [sI_same]; rfl, Cds.nil _, h.gs hk (by decide) (by decide) (by decide) (by decide) (by decide)⟩, hk.KC (by decide)⟩
  · rw [e_X9_clearInput, h.1]
    have hk : KeepM [5] [] σ (si_sI σ 29 5 (nI 0)) := KeepM.sI σ (by simp) _
    exact ⟨_, rfl, ⟨by rw [sI_same]; rfl, Cds.nil _, h.fs hk (by decide) (by decide) (by decide) (by decide) (by decide)⟩, hk.KM (by decide)⟩
theorem fact_productionCount (σ : si_M) (h : gI σ) : ∃ (r : Int32) (σ1 σ2 : si_M), si_sc gP nX8_productionCount (.ref 0 :: []) σ = some (some (.int r), σ1) ∧ si_sc gP nX9_productionCount (.ref 29 :: []) σ1 = some (some (.int r), σ2) ∧ gI σ2 := by
  refine fact_i h (fun A => nI A.2.1.length) id (fun A h => h) (fun A σ hA h => ?_) (fun A σ hA h => ?_)
  · rw [e_X8_productionCount, e_X2_count 3 (by decide), ci_s, h.2.2.1.1]
    exact ⟨σ, rfl, h, KC.rf⟩
  · rw [e_X9_productionCount, h.2.2.1]
    exact ⟨σ, rfl, h, KM.rf⟩
