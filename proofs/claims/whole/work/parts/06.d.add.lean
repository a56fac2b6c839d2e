/-! ONE MORE PRODUCTION: class (Grammar.add, placeOf, remove) and model (put) -/
/-- a production, or the sign that it is too long -/
def pv (o : Option PR) : Int64 := match o with
  | some p => lN (en p)
  | none => -1
/-- what the capped row becomes -/
def cadd (o : Option PR) (S : List PR × Bool) : List PR × Bool := match o with
  | none => (S.1, true)
  | some p => if p ∈ S.1 then S else if S.1.length < 60 then (ins p S.1, S.2) else (S.1, true)
/-- a row that is as it should be -/
def Gok (G : List PR) : Prop := G.length ≤ 60 ∧ Oks G ∧ Srt G
theorem Gok.nil : Gok [] := ⟨by simp, (fun _ h => by cases h), List.Pairwise.nil⟩
theorem Gok.add {o : Option PR} {S : List PR × Bool} (ho : ∀ p, o = some p → okp p) (h : Gok S.1) : Gok (cadd o S).1 := by
  unfold cadd
  split
  · exact h
  · rename_i p
    have hp := ho p rfl
    split
    · exact h
    · rename_i hn
      split
      · rename_i hl
        refine ⟨by rw [ins_len]; omega, fun q hq => ?_, srt_ins hp h.2.1 h.2.2 hn⟩
        rcases mem_ins.mp hq with rfl | hq
        · exact hp
        · exact h.2.1 q hq
      · exact h
/-- a Grammar of the class at cell g -/
def Gm (σ : si_M) (g : Nat) (S : List PR × Bool) : Prop := σ.1 g 1 = nI S.1.length ∧ σ.1 g 2 = bI S.2 ∧ Row (σ.2 (g + 1)) S.1
theorem Gm.keep {σ τ : si_M} {g : Nat} {S : List PR × Bool} {Z : List Nat} (h : Gm σ g S) (hk : Keep Z σ τ) (h1 : g ∉ Z) (h2 : g + 1 ∉ Z) : Gm τ g S := by
  unfold Gm
  rw [(hk g h1).1, (hk (g + 1) h2).2]
  exact h
theorem z0 (n : Nat) (h : n < 2 ^ 31) : decide (nI 0 ≤ nI n) = true := decide_eq_true (nI_le (Nat.zero_le n) h)
theorem m1 {k : Nat} (h : 0 < k) : nI k + (-1 : Int32) = nI (k - 1) := sb_m1 h
theorem sub1 {k : Nat} (h : 0 < k) : nI k - nI 1 = nI (k - 1) := pk_sub h
theorem en63 {p : PR} (h : okp p) : en p < 2 ^ 63 := by have := en_lt h; omega
theorem l_X2_placeOf {g : Nat} (hg : g = 3 ∨ g = 25) {σ : si_M} {S : List PR × Bool} (hm : Gm σ g S) (hG : Gok S.1) {v : Nat} (hv : v < 2 ^ 63) : ∀ k : Nat, pos v S.1 ≤ k → k ≤ S.1.length → si_sem gP nX2_placeOf 5 [.ref g, .long (lN v), si_U, .int (nI k)] [] σ = some (some (.int (nI (pos v S.1))), σ) := by
  intro k
  induction k with
  | zero =>
    intro h1 _
    rw [h_X2_placeOf_5 g hg, cT (nI_le (Nat.le_refl 0) (by decide))]
    have : pos v S.1 = 0 := by omega
    rw [this]
  | succ k ih =>
    intro h1 h2
    have hl := hG.1
    rw [h_X2_placeOf_5 g hg, cF (nI_ge (show 0 < k + 1 by omega) (by omega)), sub1 (show 0 < k + 1 by omega), m1 (show 0 < k + 1 by omega), Nat.add_sub_cancel, inT (by omega) (by decide), nI_clamp (by omega), hm.2.2.at (show k < S.1.length by omega)]
    have hok := hG.2.1.at (show k < S.1.length by omega)
    by_cases hlt : en S.1[k] < v
    · rw [cT ((lc_lt (en63 hok) hv).mpr hlt)]
      have : pos v S.1 = k + 1 := by
        rcases Nat.lt_or_ge (pos v S.1) (k + 1) with h3 | h3
        · have := pos_ge hG.2.2 (show pos v S.1 ≤ k by omega) (List.getElem?_eq_getElem (show k < S.1.length by omega))
          omega
        · omega
      rw [this]
    · rw [cF (fun e => hlt ((lc_lt (en63 hok) hv).mp e))]
      refine ih ?_ (by omega)
      rcases Nat.lt_or_ge k (pos v S.1) with h3 | h3
      · obtain ⟨q, h4, h5⟩ := pos_lt h3
        rw [List.getElem?_eq_getElem (show k < S.1.length by omega)] at h4
        rw [← Option.some.inj h4] at h5
        omega
      · exact h3
theorem s_X2_placeOf {g : Nat} (hg : g = 3 ∨ g = 25) {σ : si_M} {S : List PR × Bool} (hm : Gm σ g S) (hG : Gok S.1) {v : Nat} (hv : v < 2 ^ 63) : si_sc gP nX2_placeOf [.ref g, .long (lN v)] σ = some (some (.int (nI (pos v S.1))), σ) := by
  rw [e_X2_placeOf g hg, hm.1]
  exact l_X2_placeOf hg hm hG hv _ (pos_le v S.1) (Nat.le_refl _)
/-- the copy that makes room for one more -/
theorem cpy_ins {f : Nat → Int64} {G : List PR} {p : PR} (hr : Row f G) {h : Nat → Int64} (hh : ∀ j, h j = if j = pos (en p) G then lN (en p) else va_cpy f f (pos (en p) G) (pos (en p) G + 1) (G.length - pos (en p) G) j) : Row h (ins p G) := by
  have hl := pos_le (en p) G
  intro i q hq
  rw [ins_get] at hq
  rw [hh]
  by_cases h1 : i = pos (en p) G
  · rw [if_neg (by omega), if_pos h1] at hq
    cases hq
    rw [if_pos h1]
  · rw [if_neg h1]
    by_cases h2 : i < pos (en p) G
    · rw [if_pos h2] at hq
      rw [pk_cpy_out (Or.inl (by omega))]
      exact hr i q hq
    · rw [if_neg h2, if_neg h1] at hq
      have h3 := (List.getElem?_eq_some_iff.mp hq).1
      rw [pk_cpy_in (by omega) (by omega)]
      have e : pos (en p) G + (i - (pos (en p) G + 1)) = i - 1 := by omega
      rw [e]
      exact hr (i - 1) q hq
theorem nI_eqF {a b : Nat} (h : a ≠ b) (ha : a < 2 ^ 31) (hb : b < 2 ^ 31) : ¬ nI a = nI b := fun e => h ((nI_eq ha hb).mp e)
theorem s_X2_add {g : Nat} (hg : g = 3 ∨ g = 25) {σ : si_M} {S : List PR × Bool} (hm : Gm σ g S) (hG : Gok S.1) {o : Option PR} (ho : ∀ p, o = some p → okp p) : ∃ τ, si_sc gP nX2_add [.ref g, .long (pv o)] σ = some (none, τ) ∧ Gm τ g (cadd o S) ∧ Keep [g, g + 1] σ τ := by
  have hgg : g ≠ g + 1 := by omega
  have full : Gm (si_sI σ g 2 (nI 1)) g (S.1, true) := ⟨by rw [sI_nj σ g (nI 1) (by decide)]; exact hm.1, by rw [sI_same]; rfl, hm.2.2⟩
  cases o with
  | none =>
    rw [e_X2_add g hg]
    refine ⟨si_sI σ g 2 (nI 1), ?_, full, Keep.sI σ (by simp) _ _⟩
    show cond (!decide (lg_cmp (-1) (-1) = nI 0)) _ _ = _
    rw [nF (by decide)]
  | some p =>
    have hp := ho p rfl
    have hl := hG.1
    have hpl := pos_le (en p) S.1
    rw [show pv (some p) = lN (en p) from rfl, e_X2_add g hg, nT (lcmp_m1 (en63 hp)), s_X2_placeOf hg hm hG (en63 hp), ci_s]
    have hroom : S.1.length < 60 → (decide (nI 0 ≤ nI (pos (en p) S.1)) && decide (nI 0 ≤ nI (pos (en p) S.1) + nI 1) && decide (nI 0 ≤ nI S.1.length - nI (pos (en p) S.1)) && decide ((nI (pos (en p) S.1)).toNatClampNeg + (nI S.1.length - nI (pos (en p) S.1)).toNatClampNeg ≤ 60) && decide ((nI (pos (en p) S.1) + nI 1).toNatClampNeg + (nI S.1.length - nI (pos (en p) S.1)).toNatClampNeg ≤ 60) && true) = true := by
      intro h60
      rw [nI_add, pk_sub hpl, nI_clamp (by omega), nI_clamp (by omega), nI_clamp (by omega), z0 _ (by omega), z0 _ (by omega), z0 _ (by omega), decide_eq_true (show pos (en p) S.1 + (S.1.length - pos (en p) S.1) ≤ 60 by omega), decide_eq_true (show pos (en p) S.1 + 1 + (S.1.length - pos (en p) S.1) ≤ 60 by omega)]
      rfl
    have done : p ∉ S.1 → S.1.length < 60 → Gm (si_sI (si_sJ (si_sA σ (g + 1) (va_cpy (σ.2 (g + 1)) (σ.2 (g + 1)) (nI (pos (en p) S.1)).toNatClampNeg (nI (pos (en p) S.1) + nI 1).toNatClampNeg (nI S.1.length - nI (pos (en p) S.1)).toNatClampNeg)) (g + 1) (nI (pos (en p) S.1)).toNatClampNeg (lN (en p))) g 1 (nI S.1.length + nI 1)) g (cadd (some p) S) ∧ Keep [g, g + 1] σ (si_sI (si_sJ (si_sA σ (g + 1) (va_cpy (σ.2 (g + 1)) (σ.2 (g + 1)) (nI (pos (en p) S.1)).toNatClampNeg (nI (pos (en p) S.1) + nI 1).toNatClampNeg (nI S.1.length - nI (pos (en p) S.1)).toNatClampNeg)) (g + 1) (nI (pos (en p) S.1)).toNatClampNeg (lN (en p))) g 1 (nI S.1.length + nI 1)) := by
      intro hn h60
      refine ⟨?_, (Keep.sA σ (by simp) _).tr ((Keep.sJ _ (by simp) _ _).tr (Keep.sI _ (by simp) _ _))⟩
      simp only [cadd]
      rw [if_neg hn, if_pos h60]
      refine ⟨?_, ?_, ?_⟩
      · rw [sI_same, nI_add, ins_len]
      · rw [sI_nj _ g _ (by decide)]
        exact hm.2.1
      · rw [nI_add, pk_sub hpl, nI_clamp (by omega), nI_clamp (by omega), nI_clamp (by omega)]
        refine cpy_ins hm.2.2 (fun j => ?_)
        rw [sI_2]
        by_cases hj : j = pos (en p) S.1
        · rw [if_pos hj, hj, sJ_same]
        · rw [if_neg hj, sJ_nj _ _ _ hj, sA_same]
    by_cases hend : S.1.length ≤ pos (en p) S.1
    · have hn : p ∉ S.1 := by
        intro h
        have h2 := (pos_mem hp hG.2.1 hG.2.2).mp h
        rw [List.getElem?_eq_none hend] at h2
        cases h2
      rw [hm.1, cT (nI_le hend (by omega))]
      by_cases h60 : S.1.length < 60
      · rw [cT (nI_lt h60 (by decide)), hroom h60, inT (by omega) (by decide)]
        exact ⟨_, rfl, done hn h60⟩
      · rw [cF (nI_nlt (by omega) (by omega))]
        refine ⟨_, rfl, ?_, Keep.sI σ (by simp) _ _⟩
        simp only [cadd]
        rw [if_neg hn, if_neg h60]
        exact full
    · have hk : pos (en p) S.1 < S.1.length := by omega
      rw [hm.1, cF (nI_ge hk (by omega)), inT (by omega) (by decide), nI_clamp (by omega), hm.2.2.at hk]
      by_cases he : en S.1[pos (en p) S.1] = en p
      · rw [nF ((lc_eq (en63 (hG.2.1.at hk)) (en63 hp)).mpr he)]
        have hin : p ∈ S.1 := en_inj (hG.2.1.at hk) hp he ▸ List.getElem_mem hk
        refine ⟨σ, rfl, ?_, Keep.rf⟩
        simp only [cadd]
        rw [if_pos hin]
        exact hm
      · have hn : p ∉ S.1 := by
          intro h
          have h2 := (pos_mem hp hG.2.1 hG.2.2).mp h
          rw [List.getElem?_eq_getElem hk] at h2
          exact he (congrArg en (Option.some.inj h2))
        rw [nT (fun e => he ((lc_eq (en63 (hG.2.1.at hk)) (en63 hp)).mp e))]
        by_cases h60 : S.1.length < 60
        · rw [cT (nI_lt h60 (by decide))]
          have hr := hroom h60
          have hd := done hn h60
          rw [nI_clamp (show pos (en p) S.1 < 2 ^ 31 by omega)] at hr hd
          rw [hr, inT (by omega) (by decide)]
          exact ⟨_, rfl, hd⟩
        · rw [cF (nI_nlt (by omega) (by omega))]
          refine ⟨_, rfl, ?_, Keep.sI σ (by simp) _ _⟩
          simp only [cadd]
          rw [if_neg hn, if_neg h60]
          exact full
