/-! THE MODEL'S put, AND ITS COPIES OF ROWS -/
/-- all cells but S, and all of the model's own fields but F, are as they were -/
def KeepM (F S : List Nat) (σ τ : si_M) : Prop := (∀ k, k ≠ 29 → k ∉ S → τ.1 k = σ.1 k ∧ τ.2 k = σ.2 k) ∧ ∀ j, j ∉ F → τ.1 29 j = σ.1 29 j ∧ τ.2 29 j = σ.2 29 j
theorem KeepM.rf {F S : List Nat} {σ : si_M} : KeepM F S σ σ := ⟨fun _ _ _ => ⟨rfl, rfl⟩, fun _ _ => ⟨rfl, rfl⟩⟩
theorem KeepM.tr {F S : List Nat} {σ τ ρ : si_M} (h1 : KeepM F S σ τ) (h2 : KeepM F S τ ρ) : KeepM F S σ ρ := ⟨fun k a b => ⟨(h2.1 k a b).1.trans (h1.1 k a b).1, (h2.1 k a b).2.trans (h1.1 k a b).2⟩, fun j a => ⟨(h2.2 j a).1.trans (h1.2 j a).1, (h2.2 j a).2.trans (h1.2 j a).2⟩⟩
theorem KeepM.mono {F F' S S' : List Nat} {σ τ : si_M} (h : KeepM F S σ τ) (h1 : ∀ k ∈ F, k ∈ F') (h2 : ∀ k ∈ S, k ∈ S') : KeepM F' S' σ τ := ⟨fun k a b => h.1 k a (fun hh => b (h2 k hh)), fun j a => h.2 j (fun hh => a (h1 j hh))⟩
theorem KeepM.sI {F S : List Nat} (σ : si_M) {j : Nat} (hj : j ∈ F) (v : Int32) : KeepM F S σ (si_sI σ 29 j v) := ⟨fun k a _ => ⟨sI_ne σ j v a, rfl⟩, fun i hi => ⟨sI_nj σ 29 v (fun e => hi (e ▸ hj)), rfl⟩⟩
theorem KeepM.sJ {F S : List Nat} (σ : si_M) {j : Nat} (hj : j ∈ F) (v : Int64) : KeepM F S σ (si_sJ σ 29 j v) := ⟨fun k a _ => ⟨rfl, sJ_ne σ j v a⟩, fun i hi => ⟨rfl, sJ_nj σ 29 v (fun e => hi (e ▸ hj))⟩⟩
theorem KeepM.cI {F S : List Nat} (σ : si_M) {k : Nat} (hk : k ∈ S) (h29 : k ≠ 29) (j : Nat) (v : Int32) : KeepM F S σ (si_sI σ k j v) := ⟨fun a _ b => ⟨sI_ne σ j v (fun e => b (e ▸ hk)), rfl⟩, fun i _ => ⟨by rw [sI_ne σ j v h29.symm], rfl⟩⟩
theorem KeepM.cJ {F S : List Nat} (σ : si_M) {k : Nat} (hk : k ∈ S) (h29 : k ≠ 29) (j : Nat) (v : Int64) : KeepM F S σ (si_sJ σ k j v) := ⟨fun a _ b => ⟨rfl, sJ_ne σ j v (fun e => b (e ▸ hk))⟩, fun i _ => ⟨rfl, by rw [sJ_ne σ j v h29.symm]⟩⟩
def Nx (σ : si_M) (S : List PR × Bool) : Prop := σ.1 29 11 = nI S.1.length ∧ σ.1 29 12 = bI S.2 ∧ Row (σ.2 33) S.1
theorem l_X9_put_67 {v : Int64} {k : Nat} (hk : k < 60) : ∀ (d j : Nat) (σ : si_M), j = k + d → j < 60 → ∃ τ, si_sem gP nX9_put 67 [.ref 29, .long v, si_U, .int (nI k), .int (nI j)] [] σ = some (none, τ) ∧ τ.1 = (si_sI σ 29 11 (σ.1 29 11 + nI 1)).1 ∧ (∀ a, a ≠ 33 → τ.2 a = σ.2 a) ∧ ∀ i, τ.2 33 i = if i = k then v else if k < i ∧ i ≤ j then σ.2 33 (i - 1) else σ.2 33 i := by
  intro d
  induction d with
  | zero =>
    intro j σ hj h60
    have e : j = k := by omega
    subst e
    rw [h_X9_put_67, cT (nI_le (Nat.le_refl _) (by omega)), inT hk (by decide), nI_clamp (by omega)]
    refine ⟨_, rfl, rfl, fun a ha => ?_, fun i => ?_⟩
    · rw [sI_2, sJ_ne _ _ _ ha]
    · rw [sI_2]
      by_cases hi : i = j
      · rw [if_pos hi, hi, sJ_same]
      · rw [if_neg hi, if_neg (by omega), sJ_nj _ _ _ hi]
  | succ d ih =>
    intro j σ hj h60
    rw [h_X9_put_67, cF (nI_ge (by omega) (by omega)), sub1 (by omega), m1 (by omega), inT (by omega) (by decide), inT h60 (by decide), nI_clamp (by omega), nI_clamp (by omega)]
    obtain ⟨τ, h1, h2, h3, h4⟩ := ih (j - 1) (si_sJ σ 33 j (σ.2 33 (j - 1))) (by omega) (by omega)
    refine ⟨τ, h1, h2, fun a ha => by rw [h3 a ha, sJ_ne _ _ _ ha], fun i => ?_⟩
    rw [h4]
    by_cases hi : i = k
    · rw [if_pos hi, if_pos hi]
    · rw [if_neg hi, if_neg hi]
      by_cases hj2 : i = j
      · rw [if_neg (by omega), if_pos (by omega), hj2, sJ_same]
      · by_cases hj3 : k < i ∧ i ≤ j - 1
        · rw [if_pos hj3, if_pos (by omega), sJ_nj _ _ _ (by omega)]
        · rw [if_neg hj3, if_neg (by omega), sJ_nj _ _ _ hj2]
theorem s_X9_put {σ : si_M} {S : List PR × Bool} (hm : Nx σ S) (hG : Gok S.1) {p : PR} (hp : okp p) : ∃ τ, si_sc gP nX9_put [.ref 29, .long (lN (en p))] σ = some (none, τ) ∧ Nx τ (cadd (some p) S) ∧ KeepM [11, 12] [33] σ τ := by
  have hl := hG.1
  have hpl := pos_le (en p) S.1
  have full : ∃ τ, some ((none : Option Value), si_sI σ 29 12 (nI 1)) = some (none, τ) ∧ Nx τ (S.1, true) ∧ KeepM [11, 12] [33] σ τ := ⟨_, rfl, ⟨by rw [sI_nj σ 29 (nI 1) (by decide)]; exact hm.1, by rw [sI_same]; rfl, hm.2.2⟩, KeepM.sI σ (by simp) _⟩
  -- where the search ends
  obtain ⟨u, hu⟩ : ∃ u, u = if p ∈ S.1 then pos (en p) S.1 + 1 else pos (en p) S.1 := ⟨_, rfl⟩
  have hul : u ≤ S.1.length := by
    rw [hu]
    split
    · rename_i h
      have := (List.getElem?_eq_some_iff.mp ((pos_mem hp hG.2.1 hG.2.2).mp h)).1
      omega
    · omega
  have hgt : ∀ i (hi : i < S.1.length), u ≤ i → en p < en S.1[i] := by
    intro i hi hui
    have h1 : en p ≤ en S.1[i] := pos_ge hG.2.2 (show pos (en p) S.1 ≤ i by rw [hu] at hui; split at hui <;> omega) (List.getElem?_eq_getElem hi)
    rcases Nat.lt_or_eq_of_le h1 with h2 | h2
    · exact h2
    · have h3 : p = S.1[i] := en_inj hp (hG.2.1.at hi) h2
      have h4 : p ∈ S.1 := h3 ▸ List.getElem_mem hi
      have h5 := (pos_mem hp hG.2.1 hG.2.2).mp h4
      rw [hu, if_pos h4] at hui
      have h6 := (List.getElem?_eq_some_iff.mp h5)
      have h7 := List.pairwise_iff_getElem.mp hG.2.2 (pos (en p) S.1) i h6.1 hi (by omega)
      rw [h6.2] at h7
      omega
  have hle : ∀ i (hi : i < S.1.length), i < u → en S.1[i] ≤ en p := by
    intro i hi hiu
    rcases Nat.lt_or_ge i (pos (en p) S.1) with h1 | h1
    · obtain ⟨q, h2, h3⟩ := pos_lt h1
      rw [List.getElem?_eq_getElem hi] at h2
      rw [← Option.some.inj h2] at h3
      omega
    · rw [hu] at hiu
      split at hiu
      · rename_i h4
        have h5 := List.getElem?_eq_some_iff.mp ((pos_mem hp hG.2.1 hG.2.2).mp h4)
        have : i = pos (en p) S.1 := by omega
        subst this
        rw [h5.2]
        exact Nat.le_refl _
      · omega
  have walk : ∀ k, u ≤ k → k ≤ S.1.length → si_sem gP nX9_put 5 [.ref 29, .long (lN (en p)), si_U, .int (nI k), si_U] [] σ = si_sem gP nX9_put 5 [.ref 29, .long (lN (en p)), si_U, .int (nI u), si_U] [] σ := by
    intro k
    induction k with
    | zero =>
      intro h1 _
      have : u = 0 := by omega
      rw [this]
    | succ k ih =>
      intro h1 h2
      rcases Nat.lt_or_eq_of_le h1 with h3 | h3
      · conv => lhs; rw [h_X9_put_5]
        rw [cF (nI_ge (show 0 < k + 1 by omega) (by omega)), sub1 (show 0 < k + 1 by omega), m1 (show 0 < k + 1 by omega), Nat.add_sub_cancel, inT (by omega) (by decide), nI_clamp (by omega), hm.2.2.at (show k < S.1.length by omega), cF (fun e => by
          have h4 := (lc_le (en63 (hG.2.1.at (show k < S.1.length by omega))) (en63 hp)).mp e
          have h5 := hgt k (by omega) (by omega)
          omega)]
        exact ih (by omega) (by omega)
      · rw [← h3]
  have shift : p ∉ S.1 → ∃ τ, cond (!decide (σ.1 29 11 = nI 60)) (si_sem gP nX9_put 67 [.ref 29, .long (lN (en p)), si_U, .int (nI u), .int (σ.1 29 11)] [] σ) (some (none, si_sI σ 29 12 (nI 1))) = some (none, τ) ∧ Nx τ (cadd (some p) S) ∧ KeepM [11, 12] [33] σ τ := by
    intro hn
    have hu2 : u = pos (en p) S.1 := by rw [hu, if_neg hn]
    simp only [cadd]
    rw [if_neg hn, hm.1]
    by_cases h60 : S.1.length < 60
    · rw [nT (nI_eqF (by omega) (by omega) (by decide)), if_pos h60]
      obtain ⟨τ, h1, h2, h3, h4⟩ := l_X9_put_67 (v := lN (en p)) (k := u) (by omega) (S.1.length - u) S.1.length σ (by omega) h60
      refine ⟨τ, h1, ⟨?_, ?_, ?_⟩, ⟨fun k ha hb => ⟨?_, h3 k (fun e => hb (by simp [e]))⟩, fun j hj => ⟨?_, by rw [h3 29 (by decide)]⟩⟩⟩
      · rw [h2, sI_same, hm.1, nI_add, ins_len]
      · rw [h2, sI_nj _ _ _ (by decide)]; exact hm.2.1
      · intro i q hq
        rw [ins_get] at hq
        rw [h4, hu2]
        by_cases hi : i = pos (en p) S.1
        · rw [if_neg (by omega), if_pos hi] at hq
          cases hq
          rw [if_pos hi]
        · rw [if_neg hi]
          by_cases hi2 : i < pos (en p) S.1
          · rw [if_pos hi2] at hq
            rw [if_neg (by omega)]
            exact hm.2.2 i q hq
          · rw [if_neg hi2, if_neg hi] at hq
            have h5 := (List.getElem?_eq_some_iff.mp hq).1
            rw [if_pos (by omega)]
            exact hm.2.2 (i - 1) q hq
      · rw [h2, sI_ne _ _ _ ha]
      · rw [h2, sI_nj _ _ _ (fun e => hj (by simp [e]))]
    · have h9 : S.1.length = 60 := by omega
      rw [nF (by rw [h9]), if_neg h60]
      exact full
  rw [e_X9_put, hm.1, walk S.1.length hul (Nat.le_refl _), h_X9_put_5]
  by_cases h0 : u = 0
  · have hn : p ∉ S.1 := fun h => by rw [hu, if_pos h] at h0; omega
    rw [h0, cT (nI_le (Nat.le_refl 0) (by decide)), cT (nI_le (Nat.le_refl 0) (by decide))]
    have := shift hn
    rw [h0] at this
    exact this
  · rw [cF (nI_ge (by omega) (by omega)), cF (nI_ge (by omega) (by omega)), sub1 (by omega), inT (by omega) (by decide), inT (by omega) (by decide), nI_clamp (by omega), hm.2.2.at (show u - 1 < S.1.length by omega), cT ((lc_le (en63 (hG.2.1.at (show u - 1 < S.1.length by omega))) (en63 hp)).mpr (hle (u - 1) (by omega) (by omega)))]
    by_cases hin : p ∈ S.1
    · have h5 := List.getElem?_eq_some_iff.mp ((pos_mem hp hG.2.1 hG.2.2).mp hin)
      have hu2 : u - 1 = pos (en p) S.1 := by rw [hu, if_pos hin]; omega
      have h6 : S.1[u - 1] = p := by
        have h7 := h5.2
        simp only [hu2]
        exact h7
      rw [h6, nF ((lc_eq (en63 hp) (en63 hp)).mpr rfl)]
      refine ⟨σ, rfl, ?_, KeepM.rf⟩
      simp only [cadd]
      rw [if_pos hin]
      exact hm
    · rw [nT (fun e => hin (by
        have h7 := (lc_eq (en63 (hG.2.1.at (show u - 1 < S.1.length by omega))) (en63 hp)).mp e
        rw [← en_inj (hG.2.1.at (show u - 1 < S.1.length by omega)) hp h7]
        exact List.getElem_mem _))]
      exact shift hin
