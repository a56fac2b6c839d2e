/-! the working copies: class (cells 25 to 28) and model (next, copy, row) -/
theorem s_X2_isTooLarge {σ : si_M} {S : List PR × Bool} (hm : Gm σ 25 S) : si_sc gP nX2_isTooLarge [.ref 25] σ = some (some (.int (bI S.2)), σ) := by
  rw [e_X2_isTooLarge, hm.2.1, bI_and]
theorem s_X7_begin {σ : si_M} {A : AS} (hA : Aok A) (h : CI σ A) : ∃ τ, si_sc gP nX7_begin [.ref 24, .ref 3] σ = some (none, τ) ∧ Gm τ 25 (A.2.1, false) ∧ Keep csc σ τ := by
  obtain ⟨τ, e1, e2, e3⟩ := s_X2_copyFrom (g := 25) (h := 3) (by decide) h.2.2.1 hA.2.1.1
  rw [e_X7_begin, e1, cv_s]
  exact ⟨τ, rfl, e2, e3.mono (by decide)⟩
theorem s_X7_beginStep {σ : si_M} {S : List PR × Bool} (hm : Gm σ 25 S) (hl : S.1.length ≤ 60) : ∃ τ, si_sc gP nX7_beginStep [.ref 24] σ = some (none, τ) ∧ Gm τ 27 S ∧ Gm τ 25 ([], S.2) ∧ Keep csc σ τ := by
  obtain ⟨τ, e1, e2, e3⟩ := s_X2_copyFrom (g := 27) (h := 25) (by decide) hm hl
  have hm' : Gm τ 25 S := hm.keep e3 (by decide) (by decide)
  rw [e_X7_beginStep, e1, cv_s, e_X2_clear 25 (by decide), cv_s]
  refine ⟨_, rfl, e2.keep (Z := [25]) (Keep.sI τ (by decide) _ _) (by decide) (by decide), ⟨sI_same _ _ _ _, by rw [sI_nj _ 25 _ (by decide)]; exact hm'.2.1, fun i q hq => by simp at hq⟩, (e3.mono (by decide)).tr (Keep.sI τ (by decide) _ _)⟩
theorem s_X7_copyBefore {σ : si_M} {S : List PR × Bool} (hm : Gm σ 25 S) (hl : S.1.length ≤ 60) : ∃ τ, si_sc gP nX2_copyFrom [.ref 27, .ref 25] σ = some (none, τ) ∧ Gm τ 27 S ∧ Gm τ 25 S ∧ Keep csc σ τ := by
  obtain ⟨τ, e1, e2, e3⟩ := s_X2_copyFrom (g := 27) (h := 25) (by decide) hm hl
  exact ⟨τ, e1, e2, hm.keep e3 (by decide) (by decide), e3.mono (by decide)⟩
theorem s_X2_add25 {σ : si_M} {S T : List PR × Bool} (hm : Gm σ 25 S) (hb : Gm σ 27 T) (hG : Gok S.1) {o : Option PR} (ho : ∀ p, o = some p → okp p) : ∃ τ, si_sc gP nX2_add [.ref 25, .long (pv o)] σ = some (none, τ) ∧ Gm τ 25 (cadd o S) ∧ Gm τ 27 T ∧ Keep csc σ τ := by
  obtain ⟨τ, e1, e2, e3⟩ := s_X2_add (by decide) hm hG ho
  exact ⟨τ, e1, e2, hb.keep e3 (by decide) (by decide), e3.mono (by decide)⟩
/-- a row without one production -/
def rmv (p : PR) (G : List PR) : List PR := if p ∈ G then G.eraseIdx (pos (en p) G) else G
theorem rmv_ok {p : PR} {G : List PR} (h : Gok G) : Gok (rmv p G) := by
  unfold rmv
  split
  · exact ⟨Nat.le_trans (List.eraseIdx_sublist ..).length_le h.1, fun q hq => h.2.1 q ((List.eraseIdx_sublist ..).subset hq), h.2.2.sublist (List.eraseIdx_sublist ..)⟩
  · exact h
theorem rmv_mem {p : PR} {G : List PR} (hp : okp p) (h : Gok G) (x : PR) : x ∈ rmv p G ↔ x ∈ G ∧ x ≠ p := by
  unfold rmv
  split
  · rename_i hm
    have hpos := (pos_mem hp h.2.1 h.2.2).mp hm
    obtain ⟨hlt, hget⟩ := List.getElem?_eq_some_iff.mp hpos
    rw [List.mem_eraseIdx_iff_getElem?]
    constructor
    · rintro ⟨j, hj, e⟩
      obtain ⟨hjl, hje⟩ := List.getElem?_eq_some_iff.mp e
      refine ⟨hje ▸ List.getElem_mem hjl, fun ex => ?_⟩
      have hn := List.pairwise_iff_getElem.mp h.2.2
      rcases Nat.lt_trichotomy j (pos (en p) G) with hlt' | he | hgt
      · have := hn j _ hjl hlt hlt'
        rw [hje, hget, ex] at this
        exact Nat.lt_irrefl _ this
      · exact hj he
      · have := hn _ j hlt hjl hgt
        rw [hje, hget, ex] at this
        exact Nat.lt_irrefl _ this
    · rintro ⟨hx, hne⟩
      obtain ⟨j, hj, e⟩ := List.getElem_of_mem hx
      refine ⟨j, fun ej => hne ?_, by rw [List.getElem?_eq_getElem hj, e]⟩
      rw [← e, ← hget]
      congr 1
  · rename_i hm
    exact ⟨fun hx => ⟨hx, fun e => hm (e ▸ hx)⟩, fun hx => hx.1⟩
theorem s_X2_remove {σ : si_M} {S T : List PR × Bool} (hm : Gm σ 25 S) (hb : Gm σ 27 T) (hG : Gok S.1) {p : PR} (hp : okp p) : ∃ τ, si_sc gP nX2_remove [.ref 25, .long (lN (en p))] σ = some (none, τ) ∧ Gm τ 25 (rmv p S.1, S.2) ∧ Gm τ 27 T ∧ Keep csc σ τ := by
  have hl := hG.1
  have hpl := pos_le (en p) S.1
  have hpm := pos_mem hp hG.2.1 hG.2.2
  rw [e_X2_remove, s_X2_placeOf (by decide) hm hG (en63 hp), ci_s, hm.1]
  by_cases hin : p ∈ S.1
  · have hget := hpm.mp hin
    obtain ⟨hlt, hge⟩ := List.getElem?_eq_some_iff.mp hget
    have hroom : (decide (nI 0 ≤ nI (pos (en p) S.1) + nI 1) && decide (nI 0 ≤ nI (pos (en p) S.1)) && decide (nI 0 ≤ nI S.1.length - nI (pos (en p) S.1) - nI 1) && decide ((nI (pos (en p) S.1) + nI 1).toNatClampNeg + (nI S.1.length - nI (pos (en p) S.1) - nI 1).toNatClampNeg ≤ 60) && decide (pos (en p) S.1 + (nI S.1.length - nI (pos (en p) S.1) - nI 1).toNatClampNeg ≤ 60) && true) = true := by
      rw [nI_add, pk_sub hpl, sub1 (by omega), nI_clamp (by omega), nI_clamp (by omega), z0 _ (by omega), z0 _ (by omega), z0 _ (by omega), decide_eq_true (show pos (en p) S.1 + 1 + (S.1.length - pos (en p) S.1 - 1) ≤ 60 by omega), decide_eq_true (show pos (en p) S.1 + (S.1.length - pos (en p) S.1 - 1) ≤ 60 by omega)]
      rfl
    rw [cF (nI_ge hlt (by omega)), inT (by omega) (by decide), nI_clamp (by omega), show (26 : Nat) = 25 + 1 from rfl, hm.2.2.at hlt, hge, nF ((lc_eq (en63 hp) (en63 hp)).mpr rfl), hroom]
    refine ⟨_, rfl, ⟨?_, ?_, ?_⟩, hb.keep (Z := [25, 26]) ((Keep.sA σ (by decide) _).tr (Keep.sI _ (by decide) _ _)) (by decide) (by decide), (Keep.sA σ (by decide) _).tr (Keep.sI _ (by decide) _ _)⟩
    · rw [sI_same, sub1 (by omega)]
      unfold rmv
      rw [if_pos hin, List.length_eraseIdx_of_lt hlt]
    · rw [sI_nj _ 25 _ (by decide)]
      exact hm.2.1
    · intro i q hq
      unfold rmv at hq
      rw [if_pos hin, List.getElem?_eraseIdx] at hq
      rw [sI_2, sA_same, nI_add, pk_sub hpl, sub1 (by omega), nI_clamp (by omega), nI_clamp (by omega)]
      split at hq
      · rw [pk_cpy_out (Or.inl (by omega))]
        exact hm.2.2 i q hq
      · have h3 := (List.getElem?_eq_some_iff.mp hq).1
        rw [pk_cpy_in (by omega) (by omega), show pos (en p) S.1 + 1 + (i - pos (en p) S.1) = i + 1 by omega]
        exact hm.2.2 (i + 1) q hq
  · have er : rmv p S.1 = S.1 := by unfold rmv; rw [if_neg hin]
    rw [er]
    by_cases hend : S.1.length ≤ pos (en p) S.1
    · rw [cT (nI_le hend (by omega))]
      exact ⟨σ, rfl, hm, hb, Keep.rf⟩
    · have hk : pos (en p) S.1 < S.1.length := by omega
      rw [cF (nI_ge hk (by omega)), inT (by omega) (by decide), nI_clamp (by omega), show (26 : Nat) = 25 + 1 from rfl, hm.2.2.at hk, nT (fun e => by
        have he := (lc_eq (en63 (hG.2.1.at hk)) (en63 hp)).mp e
        exact hin (en_inj (hG.2.1.at hk) hp he ▸ List.getElem_mem hk))]
      exact ⟨σ, rfl, hm, hb, Keep.rf⟩
/-- what a finished copy gives -/
def finA (S : List PR × Bool) (A : AS) : AS := if S.2 then A else (A.1, S.1, A.2.2)
def finR (S : List PR × Bool) : Int32 := if S.2 then -7 else nI S.1.length
theorem finA_ok {S : List PR × Bool} {A : AS} (hS : Gok S.1) (hA : Aok A) : Aok (finA S A) := by
  unfold finA
  split
  · exact hA
  · exact ⟨hA.1, hS, hA.2.2⟩
theorem s_X7_finish {σ : si_M} {A : AS} {S : List PR × Bool} (hS : Gok S.1) (h : CI σ A) (hm : Gm σ 25 S) : ∃ τ, si_sc gP nX7_finish [.ref 24, .ref 3] σ = some (some (.int (finR S)), τ) ∧ CI τ (finA S A) ∧ KC σ τ := by
  rw [e_X7_finish, s_X2_isTooLarge hm, ci_s, bz]
  unfold finR finA
  cases hf : S.2 with
  | true => exact ⟨σ, rfl, h, KC.rf⟩
  | false =>
    obtain ⟨τ, e1, e2, e3⟩ := s_X2_copyFrom (g := 3) (h := 25) (by decide) hm hS.1
    rw [cond_false, e1, cv_s, e_X2_count 3 (by decide), ci_s, e2.1, if_neg (by decide), if_neg (by decide)]
    refine ⟨τ, rfl, ⟨by rw [(e3 1 (by decide)).1]; exact h.1, by rw [(e3 2 (by decide)).1]; exact h.2.1, ?_, ?_⟩, e3.KC (by decide)⟩
    · have : (S.1, false) = S := by rw [← hf]
      show Gm τ 3 (S.1, false)
      rw [this]; exact e2
    · have h7 := h.2.2.2
      show (match A.2.2 with
        | none => τ.1 0 3 = nI 0
        | some T => τ.1 0 3 = nI 1 ∧ Gm τ 5 (T, false))
      cases hT : A.2.2 with
      | none => rw [hT] at h7; show τ.1 0 3 = nI 0; rw [(e3 0 (by decide)).1]; exact h7
      | some T => rw [hT] at h7; exact ⟨by rw [(e3 0 (by decide)).1]; exact h7.1, h7.2.keep e3 (by decide) (by decide)⟩
-- the model
def Cp (σ : si_M) (S : List PR × Bool) : Prop := σ.1 29 26 = nI S.1.length ∧ σ.1 29 27 = bI S.2 ∧ Row (σ.2 44) S.1
theorem Cp.of {σ τ : si_M} {S : List PR × Bool} {F Z : List Nat} (h : Cp σ S) (hk : KeepM F Z σ τ) (h1 : 26 ∉ F) (h2 : 27 ∉ F) (h3 : 44 ∉ Z) : Cp τ S := ⟨by rw [(hk.2 26 h1).1]; exact h.1, by rw [(hk.2 27 h2).1]; exact h.2.1, by rw [(hk.1 44 (by decide) h3).2]; exact h.2.2⟩
theorem s_X9_start {σ : si_M} {A : AS} (hA : Aok A) (h : MI σ A) : ∃ τ, si_sc gP nX9_start [.ref 29] σ = some (none, τ) ∧ Cp τ (A.2.1, false) ∧ KeepM mF mS σ τ := by
  have hl := hA.2.1.1
  obtain ⟨τ, p1, p2, p3, p4⟩ := l_X9_start_10 A.2.1.length 0 A.2.1.length (si_sI σ 29 26 (σ.1 29 1)) (by omega) hl (by rw [sI_nj _ 29 _ (by decide)]; exact h.2.2.1)
  rw [e_X9_start, p1, h_X9_start_10, p2, sI_nj _ 29 _ (by decide), h.2.2.1, cT (nI_le (Nat.le_refl _) (by omega))]
  have k1 : KeepM mF mS σ τ := by
    have a1 : KeepM mF mS σ (si_sI σ 29 26 (σ.1 29 1)) := KeepM.sI σ (by decide) _
    refine a1.tr ⟨fun k _ hk => ⟨by rw [p2], p3 k (fun e => hk (by rw [e]; decide))⟩, fun j _ => ⟨by rw [p2], by rw [p3 29 (by decide)]⟩⟩
  refine ⟨_, rfl, ⟨?_, sI_same _ _ _ _, fun i q hq => ?_⟩, k1.tr (KeepM.sI τ (by decide) _)⟩
  · rw [sI_nj _ 29 _ (by decide), p2, sI_same]; exact h.2.2.1
  · have hi : i < A.2.1.length := (List.getElem?_eq_some_iff.mp hq).1
    rw [sI_2, p4, if_pos ⟨Nat.zero_le _, hi⟩]
    exact h.2.2.2.1 i q hq
theorem s_X9_begin (σ : si_M) : ∃ τ, si_sc gP nX9_begin [.ref 29] σ = some (none, τ) ∧ Nx τ ([], false) ∧ KeepM [11, 12] [] σ τ := by
  rw [e_X9_begin]
  exact ⟨_, rfl, ⟨by rw [sI_nj _ 29 _ (by decide), sI_same]; rfl, sI_same _ _ _ _, fun i q hq => by simp at hq⟩, (KeepM.sI σ (by decide) _).tr (KeepM.sI _ (by decide) _)⟩
theorem s_X9_step {σ : si_M} {S C : List PR × Bool} (hS : S.1.length ≤ 60) (hn : Nx σ S) (hc : Cp σ C) : ∃ τ, si_sc gP nX9_step [.ref 29] σ = some (none, τ) ∧ Cp τ (S.1, C.2 || S.2) ∧ KeepM [26, 27] [44] σ τ := by
  have go : ∀ b : Bool, ∃ τ, si_sem gP nX9_step 33 [.ref 29, .int (nI 0)] [] (si_sI (si_sI σ 29 27 (bI b)) 29 26 (σ.1 29 11)) = some (none, τ) ∧ Cp τ (S.1, b) ∧ KeepM [26, 27] [44] σ τ := by
    intro b
    obtain ⟨τ, p1, p2, p3, p4⟩ := l_X9_step_33 S.1.length 0 S.1.length (si_sI (si_sI σ 29 27 (bI b)) 29 26 (σ.1 29 11)) (by omega) hS (by rw [sI_nj _ 29 _ (by decide), sI_nj _ 29 _ (by decide)]; exact hn.1)
    rw [p1, h_X9_step_33, p2, sI_nj _ 29 _ (by decide), sI_nj _ 29 _ (by decide), hn.1, cT (nI_le (Nat.le_refl _) (by omega))]
    have a1 : KeepM [26, 27] [44] σ (si_sI (si_sI σ 29 27 (bI b)) 29 26 (nI S.1.length)) := (KeepM.sI σ (by decide) _).tr (KeepM.sI _ (by decide) _)
    rw [hn.1] at p2 p3 p4
    refine ⟨τ, rfl, ⟨?_, ?_, fun i q hq => ?_⟩, a1.tr ⟨fun k _ hk => ⟨by rw [p2], p3 k (fun e => hk (by rw [e]; decide))⟩, fun j _ => ⟨by rw [p2], by rw [p3 29 (by decide)]⟩⟩⟩
    · rw [p2, sI_same]
    · rw [p2, sI_nj _ 29 _ (by decide), sI_same]
    · have hi : i < S.1.length := (List.getElem?_eq_some_iff.mp hq).1
      rw [p4, if_pos ⟨Nat.zero_le _, hi⟩]
      exact hn.2.2 i q hq
  rw [e_X9_step, hc.2.1, hn.2.1, bn, bz]
  cases C.2 with
  | true => exact go true
  | false =>
    cases S.2 with
    | true => exact go true
    | false => exact go false
theorem s_X9_finish {σ : si_M} {A : AS} {S : List PR × Bool} (hS : Gok S.1) (h : MI σ A) (hc : Cp σ S) : ∃ τ, si_sc gP nX9_finish [.ref 29] σ = some (some (.int (finR S)), τ) ∧ MI τ (finA S A) ∧ KM σ τ := by
  have hl := hS.1
  rw [e_X9_finish, hc.2.1, bz]
  unfold finR finA
  cases hf : S.2 with
  | true => exact ⟨σ, rfl, h, KM.rf⟩
  | false =>
    obtain ⟨τ, p1, p2, p3, p4⟩ := l_X9_finish_20 S.1.length 0 S.1.length (si_sI σ 29 1 (σ.1 29 26)) (by omega) hl (by rw [sI_same]; exact hc.1)
    rw [cond_false, p1, h_X9_finish_20, p2, sI_same, hc.1, cT (nI_le (Nat.le_refl _) (by omega)), if_neg (by decide), if_neg (by decide)]
    rw [hc.1] at p2 p3 p4
    have a1 : KeepM [1] [30] σ τ := by
      have a0 : KeepM [1] [30] σ (si_sI σ 29 1 (nI S.1.length)) := KeepM.sI σ (by decide) _
      exact a0.tr ⟨fun k _ hk => ⟨by rw [p2], p3 k (fun e => hk (by rw [e]; decide))⟩, fun j _ => ⟨by rw [p2], by rw [p3 29 (by decide)]⟩⟩
    refine ⟨τ, rfl, ⟨by rw [(a1.2 5 (by decide)).1]; exact h.1, by rw [(a1.1 32 (by decide) (by decide)).1]; exact h.2.1, ?_, ?_, ?_⟩, a1.KM (by decide)⟩
    · rw [p2, sI_same]
    · intro i q hq
      have hi : i < S.1.length := (List.getElem?_eq_some_iff.mp hq).1
      rw [p4, if_pos ⟨Nat.zero_le _, hi⟩]
      exact hc.2.2 i q hq
    · have h7 := h.2.2.2.2
      show (match A.2.2 with
        | none => τ.1 29 4 = nI 0
        | some T => τ.1 29 4 = nI 1 ∧ τ.1 29 3 = nI T.length ∧ Row (τ.2 31) T)
      cases hT : A.2.2 with
      | none => rw [hT] at h7; show τ.1 29 4 = nI 0; rw [(a1.2 4 (by decide)).1]; exact h7
      | some T => rw [hT] at h7; exact ⟨by rw [(a1.2 4 (by decide)).1]; exact h7.1, by rw [(a1.2 3 (by decide)).1]; exact h7.2.1, by rw [(a1.1 31 (by decide) (by decide)).2]; exact h7.2.2⟩
