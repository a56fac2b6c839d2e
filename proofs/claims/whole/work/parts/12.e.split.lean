/-! toChomsky: long right sides are cut -/
theorem lp_idx {β : Type} {F : Nat → Option si_O} {G : List β} {p : β → Bool} {X : Nat → Option si_O} {Y : Option si_O} (hs : ∀ i (hi : i < G.length), F i = cond (p G[i]) (X i) (F (i + 1))) (he : F G.length = Y) : (G.find? p = none ∧ F 0 = Y) ∨ ∃ i, ∃ hi : i < G.length, G.find? p = some G[i] ∧ F 0 = X i ∧ p G[i] = true := by
  have key : ∀ (d i : Nat), i + d = G.length → ((G.drop i).find? p = none ∧ F i = Y) ∨ ∃ j, ∃ hj : j < G.length, (G.drop i).find? p = some G[j] ∧ F i = X j ∧ p G[j] = true := by
    intro d
    induction d with
    | zero =>
      intro i h
      have e : i = G.length := by omega
      subst e
      exact Or.inl ⟨by rw [List.drop_length]; rfl, he⟩
    | succ d ih =>
      intro i h
      have hi : i < G.length := by omega
      rw [List.drop_eq_getElem_cons hi, List.find?_cons, hs i hi]
      cases hp : p G[i] with
      | true => exact Or.inr ⟨i, hi, rfl, rfl, hp⟩
      | false => exact ih (i + 1) (by omega)
  have := key G.length 0 (by omega)
  rwa [List.drop_zero] at this
def fLo (G : List PR) : Option PR := G.find? (fun q => decide (2 < q.2.length))
def sp1 (p : PR) (z : Nat) (G : List PR) : List PR × Bool := cadd (some (z, p.2.drop 1)) (cadd (some (p.1, p.2.take 1 ++ [z + 1])) (rmv p G, false))
def spF (S : List PR × Bool) : List PR × Bool := if S.2 then S else match fLo S.1 with
  | none => S
  | some p => match fre S.1 with
    | none => (S.1, true)
    | some z => sp1 p z S.1
theorem fLo_in {G : List PR} {p : PR} (h : fLo G = some p) : p ∈ G ∧ 2 < p.2.length := ⟨List.mem_of_find?_eq_some h, by simpa using List.find?_some h⟩
theorem sp_ok1 {p : PR} (hp : okp p) {z : Nat} (hz : z < 16) : okp (p.1, p.2.take 1 ++ [z + 1]) := okp_app (q := (p.1, p.2.take 1)) (okp_take hp 1) (fun b hb => by rw [List.mem_singleton.mp hb]; omega) (by simp; omega)
theorem sp_ok2 {p : PR} (hp : okp p) {z : Nat} (hz : z < 16) : okp (z, p.2.drop 1) := ⟨hz, by rw [List.length_drop]; have := hp.2.1; omega, fun a ha => hp.2.2 a (List.mem_of_mem_drop ha)⟩
theorem sp1_ok {p : PR} {z : Nat} {G : List PR} (hG : Gok G) (hp : okp p) (hz : z < 16) : Gok (sp1 p z G).1 := cadd_some_ok (cadd_some_ok (S := (rmv p G, false)) (rmv_ok hG) (sp_ok1 hp hz)) (sp_ok2 hp hz)
theorem spF_ok {S : List PR × Bool} (hS : Gok S.1) : Gok (spF S).1 := by
  unfold spF
  split
  · exact hS
  · split
    · exact hS
    · rename_i p hp
      split
      · exact hS
      · rename_i z hz
        exact sp1_ok hS (hS.2.1 p (fLo_in hp).1) (fre_lt hz)
theorem spF_fl {S : List PR × Bool} (h : S.2 = true) : spF S = S := by unfold spF; rw [if_pos h]
theorem spF_none {S : List PR × Bool} (h : fLo S.1 = none) : spF S = S := by
  unfold spF
  split
  · rfl
  · rw [h]
/-- how many letters are free -/
def fre_n (G : List PR) : Nat := (List.range 16).countP (fun i => !uB G i)
theorem fre_n_le (G : List PR) : fre_n G ≤ 15 := by
  unfold fre_n
  rw [show List.range 16 = 0 :: List.range' 1 15 from by decide, List.countP_cons_of_neg (by simp [uB])]
  exact Nat.le_trans (List.countP_le_length ..) (by simp)
def mea (S : List PR × Bool) : Nat := if S.2 then 0 else fre_n S.1 + 1
theorem mea_le (S : List PR × Bool) : mea S ≤ 16 := by
  unfold mea
  have := fre_n_le S.1
  split <;> omega
theorem fre_free {G : List PR} {z : Nat} (h : fre G = some z) : uB G z = false := by
  have := List.find?_some h
  simpa using this
/-- one letter more is used, none less -/
theorem fre_less {G G' : List PR} {z : Nat} (h : fre G = some z) (hz : uB G' z = true) (hu : ∀ i, uB G i = true → uB G' i = true) : fre_n G' < fre_n G := by
  unfold fre_n
  refine cnt_lt _ (fun i _ hi => ?_) ⟨z, List.mem_range.mpr (fre_lt h), by rw [fre_free h]; rfl, by rw [hz]; rfl⟩
  cases hb : uB G i with
  | false => rfl
  | true => rw [hu i hb] at hi; cases hi
theorem uB_iff {G : List PR} {i : Nat} : uB G i = true ↔ i = 0 ∨ ∃ q ∈ G, q.1 = i ∨ (i + 1) ∈ q.2 := by
  unfold uB
  simp only [Bool.or_eq_true, decide_eq_true_eq, List.any_eq_true]
  constructor
  · rintro (h | ⟨q, hq, h | ⟨a, ha, rfl⟩⟩)
    · exact Or.inl h
    · exact Or.inr ⟨q, hq, Or.inl h⟩
    · exact Or.inr ⟨q, hq, Or.inr ha⟩
  · rintro (h | ⟨q, hq, h | h⟩)
    · exact Or.inl h
    · exact Or.inr ⟨q, hq, Or.inl h⟩
    · exact Or.inr ⟨q, hq, Or.inr ⟨i + 1, h, rfl⟩⟩
theorem spF_mea {S : List PR × Bool} (hS : Gok S.1) : spF S = S ∨ mea (spF S) < mea S := by
  unfold spF
  by_cases h2 : S.2 = true
  · rw [if_pos h2]; exact Or.inl rfl
  · rw [if_neg h2]
    have hm : mea S = fre_n S.1 + 1 := by unfold mea; rw [if_neg h2]
    cases hp : fLo S.1 with
    | none => exact Or.inl rfl
    | some p =>
      cases hz : fre S.1 with
      | none => right; rw [hm]; show mea (S.1, true) < _; unfold mea; rw [if_pos rfl]; omega
      | some z =>
        right
        rw [hm]
        try dsimp only
        obtain ⟨hpm, hpl⟩ := fLo_in hp
        have hpo := hS.2.1 p hpm
        cases hfl : (sp1 p z S.1).2 with
        | true => unfold mea; rw [if_pos hfl]; omega
        | false =>
          have hm2 : mea (sp1 p z S.1) = fre_n (sp1 p z S.1).1 + 1 := by unfold mea; rw [if_neg (by rw [hfl]; decide)]
          rw [hm2]
          have hmem : ∀ x, x ∈ (sp1 p z S.1).1 ↔ x = (z, p.2.drop 1) ∨ x = (p.1, p.2.take 1 ++ [z + 1]) ∨ (x ∈ S.1 ∧ x ≠ p) := by
            intro x
            unfold sp1 at hfl ⊢
            obtain ⟨g1, p1, g2, g3⟩ := cadd_f hfl
            obtain ⟨g4, p2, g5, g6⟩ := cadd_f g1
            rw [g3 x, g6 x, ← Option.some.inj g2, ← Option.some.inj g5, rmv_mem hpo hS]
          have := fre_less (G' := (sp1 p z S.1).1) hz (uB_iff.mpr (Or.inr ⟨_, (hmem _).mpr (Or.inl rfl), Or.inl rfl⟩)) (fun i hi => by
            rcases uB_iff.mp hi with h | ⟨q, hq, h⟩
            · exact uB_iff.mpr (Or.inl h)
            · by_cases hqp : q = p
              · subst hqp
                rcases h with h | h
                · exact uB_iff.mpr (Or.inr ⟨_, (hmem _).mpr (Or.inr (Or.inl rfl)), Or.inl h⟩)
                · rw [← List.take_append_drop 1 q.2] at h
                  rcases List.mem_append.mp h with h | h
                  · exact uB_iff.mpr (Or.inr ⟨_, (hmem _).mpr (Or.inr (Or.inl rfl)), Or.inr (List.mem_append_left _ h)⟩)
                  · exact uB_iff.mpr (Or.inr ⟨_, (hmem _).mpr (Or.inl rfl), Or.inr h⟩)
              · exact uB_iff.mpr (Or.inr ⟨q, (hmem q).mpr (Or.inr (Or.inr ⟨hq, hqp⟩)), h⟩))
          omega
-- the class
theorem s_X7_firstLong {σ : si_M} {S : List PR × Bool} (hm : Gm σ 25 S) (hG : Gok S.1) : si_sc gP nX7_firstLong [.ref 24] σ = some (some (.long (pv (fLo S.1))), σ) := by
  have hl := hG.1
  have := lp_idx (F := fun i => si_sem gP nX7_firstLong 2 [.ref 24, .int (nI i)] [] σ) (G := S.1) (p := fun q => decide (2 < q.2.length)) (X := fun i => si_cl (si_sc gP nX2_at [.ref 25, .int (nI i)] σ) (fun r5_33 σ5_33 => some (some (.long r5_33), σ5_33))) (Y := some (some (.long (-1 : Int64)), σ)) (fun i hi => by
    have hok := hG.2.1.at hi
    try dsimp only
    rw [h_X7_firstLong_2, e_X2_count 25 (by decide), ci_s, hm.1, cF (nI_ge hi (by omega)), s_X2_at (by decide) hm hl hi, cl_s, s_X5_length hok, ci_s, nI_add]
    by_cases h2 : 2 < S.1[i].2.length
    · rw [cF (nI_ge h2 (by have := hok.2.1; omega)), decide_eq_true h2, s_X2_at (by decide) hm hl hi]; rfl
    · rw [cT (nI_le (show S.1[i].2.length ≤ 2 by omega) (by decide)), decide_eq_false h2]; rfl) (by
    try dsimp only
    rw [h_X7_firstLong_2, e_X2_count 25 (by decide), ci_s, hm.1, cT (nI_le (Nat.le_refl _) (by omega))])
  rw [e_X7_firstLong]
  unfold fLo
  rcases this with ⟨h1, h2⟩ | ⟨i, hi, h1, h2, _⟩
  · rw [h1]; exact h2
  · rw [h1]
    refine Eq.trans h2 ?_
    rw [s_X2_at (by decide) hm hl hi, cl_s]
    rfl
theorem s_X2_add25' {σ : si_M} {S : List PR × Bool} (hm : Gm σ 25 S) (hG : Gok S.1) {o : Option PR} (ho : ∀ p, o = some p → okp p) : ∃ τ, si_sc gP nX2_add [.ref 25, .long (pv o)] σ = some (none, τ) ∧ Gm τ 25 (cadd o S) ∧ Keep csc σ τ := by
  obtain ⟨τ, e1, e2, e3⟩ := s_X2_add (by decide) hm hG ho
  exact ⟨τ, e1, e2, e3.mono (by decide)⟩
theorem s_X2_remove' {σ : si_M} {S : List PR × Bool} (hm : Gm σ 25 S) (hG : Gok S.1) {p : PR} (hp : okp p) : ∃ τ, si_sc gP nX2_remove [.ref 25, .long (lN (en p))] σ = some (none, τ) ∧ Gm τ 25 (rmv p S.1, S.2) ∧ Keep [25, 26] σ τ := by
  have hl := hG.1
  have hpl := pos_le (en p) S.1
  have hpm := pos_mem hp hG.2.1 hG.2.2
  rw [e_X2_remove, s_X2_placeOf (by decide) hm hG (en63 hp), ci_s, hm.1]
  by_cases hin : p ∈ S.1
  · have hget := hpm.mp hin
    obtain ⟨hlt, hge⟩ := List.getElem?_eq_some_iff.mp hget
    have hroom : (decide (nI 0 ≤ nI (pos (en p) S.1) + nI 1) && decide (nI 0 ≤ nI (pos (en p) S.1)) && decide (nI 0 ≤ nI S.1.length - nI (pos (en p) S.1) - nI 1) && decide ((nI (pos (en p) S.1) + nI 1).toNatClampNeg + (nI S.1.length - nI (pos (en p) S.1) - nI 1).toNatClampNeg ≤ 60) && decide (pos (en p) S.1 + (nI S.1.length - nI (pos (en p) S.1) - nI 1).toNatClampNeg ≤ 60) && true) = true := by
      rw [nI_add, pk_sub hpl, sub1 (by omega), nI_clamp (by omega), nI_clamp (by omega), z0 _ (by omega), z0 _ (by omega), z0 _ (by omega), decide_eq_true (show pos (en p) S.1 + 1 + (S.1.length - pos (en p) S.1 - 1) ≤ 60 by omega), decide_eq_true (show pos (en p) S.1 + (S.1.length - pos (en p) S.1 - 1) ≤ 60 by omega)]
      rfl
    rw [cF (nI_ge hlt (by omega)), inT (by omega) (by decide), nI_clamp (by omega), show (26 : Nat) = 25 + 1 from rfl, hm.2.2.at hlt, hge, nF ((lc_eq (en63 hp) (en63 hp)).mpr rfl), hroom]
    refine ⟨_, rfl, ⟨?_, ?_, ?_⟩, (Keep.sA σ (by decide) _).tr (Keep.sI _ (by decide) _ _)⟩
    · rw [sI_same, sub1 (by omega)]
      unfold rmv
      rw [if_pos hin, List.length_eraseIdx_of_lt hlt]
    · rw [sI_nj _ 25 _ (by decide)]
      exact hm.2.1
    · intro i q hq
      unfold rmv at hq
      rw [if_pos hin, List.getElem?_eraseIdx] at hq
      rw [sI_2, sA_same, nI_add, pk_sub hpl, sub1 (by omega), nI_clamp (by omega), nI_clamp (by omega)]
      split at hq
      · rw [pk_cpy_out (Or.inl (by omega))]
        exact hm.2.2 i q hq
      · have h3 := (List.getElem?_eq_some_iff.mp hq).1
        rw [pk_cpy_in (by omega) (by omega), show pos (en p) S.1 + 1 + (i - pos (en p) S.1) = i + 1 by omega]
        exact hm.2.2 (i + 1) q hq
  · have er : rmv p S.1 = S.1 := by unfold rmv; rw [if_neg hin]
    rw [er]
    by_cases hend : S.1.length ≤ pos (en p) S.1
    · rw [cT (nI_le hend (by omega))]
      exact ⟨σ, rfl, hm, Keep.rf⟩
    · have hk : pos (en p) S.1 < S.1.length := by omega
      rw [cF (nI_ge hk (by omega)), inT (by omega) (by decide), nI_clamp (by omega), show (26 : Nat) = 25 + 1 from rfl, hm.2.2.at hk, nT (fun e => by
        have he := (lc_eq (en63 (hG.2.1.at hk)) (en63 hp)).mp e
        exact hin (en_inj (hG.2.1.at hk) hp he ▸ List.getElem_mem hk))]
      exact ⟨σ, rfl, hm, Keep.rf⟩
theorem s_X7_split {σ : si_M} {S : List PR × Bool} (hm : Gm σ 25 S) (hf0 : S.2 = false) (hG : Gok S.1) {p : PR} (hp : fLo S.1 = some p) : ∃ τ, si_sc gP nX7_split [.ref 24, .long (lN (en p))] σ = some (none, τ) ∧ Gm τ 25 (spF S) ∧ Keep csc σ τ := by
  obtain ⟨hpm, hpl⟩ := fLo_in hp
  have hpo := hG.2.1 p hpm
  have hw := hpo.2.1
  rw [e_X7_split, s_X2_freeNonterminal hm hG, ci_s]
  unfold spF
  rw [if_neg (by rw [hf0]; decide), hp]
  cases hfr : fre S.1 with
  | none =>
    obtain ⟨τ, a1, a2, a3⟩ := s_X2_refuse' hm
    rw [show fI none = (-1 : Int32) from rfl, nF rfl, a1, cv_s]
    exact ⟨τ, rfl, a2, a3⟩
  | some z =>
    have hz := fre_lt hfr
    obtain ⟨τ1, b1, b2, b3⟩ := s_X2_remove' hm hG hpo
    rw [hf0] at b2
    have o1 := sp_ok1 hpo hz
    have o2 := sp_ok2 hpo hz
    obtain ⟨τ2, c1, c2, c3⟩ := s_X2_add25' b2 (rmv_ok hG) (o := some (p.1, p.2.take 1 ++ [z + 1])) (fun p hp => by cases hp; exact o1)
    obtain ⟨τ3, d1, d2, d3⟩ := s_X2_add25' c2 (cadd_some_ok (S := (rmv p S.1, false)) (rmv_ok hG) o1) (o := some (z, p.2.drop 1)) (fun p hp => by cases hp; exact o2)
    have hex := s_X5_extended (a := z + 1) (okp_take hpo 1) ⟨by omega, by omega⟩ τ1
    have e1 : ext (p.1, p.2.take 1) (z + 1) = some (p.1, p.2.take 1 ++ [z + 1]) := by
      unfold ext
      rw [if_pos (show (p.2.take 1).length < 8 by rw [List.length_take]; omega)]
    rw [e1, show z + 1 - 1 = z from rfl] at hex
    have e2 : joi (z, []) p.2 1 = some (z, p.2.drop 1) := by
      unfold joi
      rw [if_pos (by simp; omega)]
      rfl
    rw [show fI (some z) = nI z from rfl, nT (fI_ne hz), b1, cv_s, s_X5_cut hpo (by omega), cl_s, hex, cl_s, c1, cv_s, s_X5_withoutRight hz, cl_s, s_X5_joined (okp_nil hz) hpo (by omega), cl_s, e2, d1, cv_s]
    exact ⟨τ3, rfl, d2, ((b3.mono (by decide)).tr c3).tr d3⟩
theorem s_X7_splitLong {σ : si_M} {S : List PR × Bool} (hm : Gm σ 25 S) (hG : Gok S.1) : ∃ τ, si_sc gP nX7_splitLong [.ref 24] σ = some (none, τ) ∧ Gm τ 25 (itr spF 17 S) ∧ Keep csc σ τ := by
  have key : ∀ (d i : Nat) (S : List PR × Bool) (σ : si_M), i + d = 17 → Gm σ 25 S → Gok S.1 → ∃ τ, si_sem gP nX7_splitLong 2 [.ref 24, .int (nI i), si_U, si_U] [] σ = some (none, τ) ∧ Gm τ 25 (itr spF d S) ∧ Keep csc σ τ := by
    intro d
    induction d with
    | zero =>
      intro i S σ hi hm hG
      rw [h_X7_splitLong_2, cT (nI_lt (show 16 < i by omega) (by omega))]
      exact ⟨σ, rfl, hm, Keep.rf⟩
    | succ d ih =>
      intro i S σ hi hm hG
      rw [h_X7_splitLong_2, cF (nI_nlt (show i ≤ 16 by omega) (by decide)), s_X2_isTooLarge hm, ci_s, bn]
      cases hf : S.2 with
      | true =>
        rw [cond_true, itr_fix (spF_fl hf)]
        exact ⟨σ, rfl, hm, Keep.rf⟩
      | false =>
        rw [cond_false, s_X7_firstLong hm hG, cl_s]
        cases hp : fLo S.1 with
        | none =>
          rw [show pv none = (-1 : Int64) from rfl, nF (by decide), itr_fix (spF_none hp)]
          exact ⟨σ, rfl, hm, Keep.rf⟩
        | some p =>
          have hpo := hG.2.1 p (fLo_in hp).1
          obtain ⟨τ, a1, a2, a3⟩ := s_X7_split hm hf hG hp
          obtain ⟨τ', t1, t2, t3⟩ := ih (i + 1) (spF S) τ (by omega) a2 (spF_ok hG)
          rw [show pv (some p) = lN (en p) from rfl, nT (lcmp_m1 (en63 hpo)), a1, cv_s, nI_add, t1]
          exact ⟨τ', rfl, t2, a3.tr t3⟩
  rw [e_X7_splitLong]
  exact key 17 0 S σ rfl hm hG
-- the model
theorem flt_rmv {G : List PR} (hG : Gok G) {p : PR} (hp : okp p) : G.filter (fun q => !decide (q = p)) = rmv p G := by
  refine Gok_ext (hG.filter _).2.1 (rmv_ok hG).2.1 (hG.filter _).2.2 (rmv_ok hG).2.2 (fun x => ?_)
  rw [rmv_mem hp hG, List.mem_filter]
  simp
theorem srt_eq {G : List PR} (hG : Gok G) {i j : Nat} (hi : i < G.length) (hj : j < G.length) : G[i] = G[j] ↔ i = j := by
  constructor
  · intro e
    rcases Nat.lt_trichotomy i j with h | h | h
    · have := List.pairwise_iff_getElem.mp hG.2.2 i j hi hj h
      rw [e] at this; omega
    · exact h
    · have := List.pairwise_iff_getElem.mp hG.2.2 j i hj hi h
      rw [e] at this; omega
  · intro e; subst e; rfl
/-- all but one are put in again -/
theorem put_rest {F : Nat → si_M → Option si_O} {σ : si_M} {S : List PR × Bool} (hG : Gok S.1) {k : Nat} (hk : k < S.1.length) (hs : ∀ i τ (hi : i < S.1.length), Cp τ S → F i τ = cond (decide (nI i = nI k)) (F (i + 1) τ) (si_cv (si_sc gP nX9_put [.ref 29, .long (lN (en S.1[i]))] τ) (fun τ' => F (i + 1) τ'))) {τ : si_M} (hC : Cp τ S) (hN : Nx τ ([], false)) (hK : KeepM mF mS σ τ) : ∃ τ', F 0 τ = F S.1.length τ' ∧ Cp τ' S ∧ Nx τ' (rmv S.1[k] S.1, false) ∧ KeepM mF mS σ τ' := by
  have hl := hG.1
  obtain ⟨τ', f1, f2⟩ := lp_ex (F := F) (G := S.1) (f := fun T q => if (!decide (q = S.1[k])) then cadd (some q) T else T) (R := fun τ T => Cp τ S ∧ Nx τ T ∧ Gok T.1 ∧ KeepM mF mS σ τ) (fun i τ T hi hR => by
    obtain ⟨r1, r2, r3, r4⟩ := hR
    have hok := hG.2.1.at hi
    rw [hs i τ hi r1]
    by_cases e : i = k
    · subst e
      rw [cT rfl, decide_eq_true rfl]
      exact ⟨τ, rfl, r1, r2, r3, r4⟩
    · obtain ⟨τ2, a1, a2, a3⟩ := s_X9_put r2 r3 hok
      rw [cF (nI_eqF e (by omega) (by omega)), decide_eq_false (fun h => e ((srt_eq hG hi hk).mp h)), a1, cv_s]
      exact ⟨τ2, rfl, r1.of a3 (by decide) (by decide) (by decide), a2, cadd_some_ok r3 hok, r4.tr (a3.mono (by decide) (by decide))⟩) τ ([], false) ⟨hC, hN, Gok.nil, hK⟩
  rw [add_filter hG, flt_rmv hG (hG.2.1.at hk)] at f2
  exact ⟨τ', f1, f2.1, f2.2.1, f2.2.2.2⟩
def spB (S : List PR × Bool) : Bool := !S.2 && (fLo S.1).isSome && (fre S.1).isSome
theorem s_X9_cut {σ : si_M} {S : List PR × Bool} (hc : Cp σ S) (hG : Gok S.1) : ∃ τ, si_sc gP nX9_cut [.ref 29] σ = some (some (.int (bI (spB S))), τ) ∧ Cp τ (spF S) ∧ KeepM mF mS σ τ := by
  have hl := hG.1
  have := lp_idx (F := fun i => si_sem gP nX9_cut 2 [.ref 29, .int (nI i), si_U, si_U] [] σ) (G := S.1) (p := fun q => decide (2 < q.2.length)) (X := fun i => cond (decide (bI S.2 = (nI 0))) (si_ci (si_sc gP nX9_freeOne [.ref 29] σ) (fun r6_47 σ6_47 => cond (decide ((σ6_47.1 29 27) = (nI 0))) (si_cv (si_sc gP nX9_begin [.ref 29] σ6_47) (fun σ8_61 => si_sem gP nX9_cut 66 [.ref 29, .int (nI i), .int r6_47, .int (nI 0)] [] σ8_61)) (some (some (.int (nI 0)), σ6_47)))) (some (some (.int (nI 0)), σ))) (Y := some (some (.int (nI 0)), σ)) (fun i hi => by
    have hok := hG.2.1.at hi
    try dsimp only
    rw [h_X9_cut_2, hc.1, cF (nI_ge hi (by omega)), inT (show i < 60 by omega) (by decide), nI_clamp (by omega), hc.2.2.at hi, s_X9_size hok, ci_s, nI_add, hc.2.1]
    by_cases h2 : 2 < S.1[i].2.length
    · rw [cT (nI_le (show 3 ≤ S.1[i].2.length by omega) (by have := hok.2.1; omega)), decide_eq_true h2, hc.1, cF (nI_eqF (show i ≠ S.1.length by omega) (by omega) (by omega))]; rfl
    · rw [cF (nI_ge (show S.1[i].2.length < 3 by omega) (by decide)), decide_eq_false h2]; rfl) (by
    try dsimp only
    rw [h_X9_cut_2, hc.1, cT (nI_le (Nat.le_refl _) (by omega)), cT rfl])
  rw [e_X9_cut]
  unfold spF spB
  rcases this with ⟨h1, h2⟩ | ⟨k, hk, h1, h2, h3⟩
  · have h1' : fLo S.1 = none := h1
    rw [h1']
    refine ⟨σ, Eq.trans h2 ?_, ?_, KeepM.rf⟩
    · simp [bI]
    · split
      · exact hc
      · exact hc
  · have h1' : fLo S.1 = some S.1[k] := h1
    have hko : okp S.1[k] := hG.2.1.at hk
    have hw := hko.2.1
    have h3 : 2 < S.1[k].2.length := by simpa using h3
    rw [h1', show si_sem gP nX9_cut 2 [.ref 29, .int (nI 0), si_U, si_U] [] σ = _ from h2, bz]
    cases hf0 : S.2 with
    | true =>
      rw [if_pos rfl]
      exact ⟨σ, rfl, hc, KeepM.rf⟩
    | false =>
      rw [cond_false, if_neg (by decide), s_X9_freeOne hc hG, ci_s]
      cases hfr : fre S.1 with
      | none =>
        try dsimp only
        rw [sI_same, cF (by decide)]
        refine ⟨_, rfl, ⟨by rw [sI_nj _ 29 _ (by decide)]; exact hc.1, sI_same _ _ _ _, hc.2.2⟩, KeepM.sI σ (by decide) _⟩
      | some z =>
        have hz := fre_lt hfr
        obtain ⟨τ1, b1, b2, b3⟩ := s_X9_begin σ
        try dsimp only
        rw [hc.2.1, hf0, bz, cond_false, b1, cv_s, show fI (some z) = nI z from rfl]
        obtain ⟨τ2, f1, r1, r2, r4⟩ := put_rest (F := fun i τ => si_sem gP nX9_cut 66 [.ref 29, .int (nI k), .int (nI z), .int (nI i)] [] τ) (σ := σ) hG hk (fun i τ hi r1 => by
          try dsimp only
          rw [h_X9_cut_66, r1.1, cF (nI_ge hi (by omega)), inT (show i < 60 by omega) (by decide), nI_clamp (by omega), r1.2.2.at hi, nI_add]) (hc.of b3 (by decide) (by decide) (by decide)) b2 (b3.mono (by decide) (by decide))
        have o1 := sp_ok1 hko hz
        have o2 := sp_ok2 hko hz
        -- the first row
        have k0 : KeepM [14] [] τ2 (si_sI τ2 29 14 (nI 0)) := KeepM.sI τ2 (by decide) _
        obtain ⟨π, a1, a2, a3⟩ := s_X9_addRow hko (Nat.zero_le 1) (show 1 ≤ S.1[k].2.length by omega) (Rw.nil τ2) (by simp)
        rw [List.drop_zero, List.nil_append] at a2
        have hl1 : (S.1[k].2.take 1).length = 1 := by rw [List.length_take]; omega
        have hs1 := a2.snoc (z + 1)
        rw [hl1] at hs1
        have k1 : KeepM [14] [34] π (si_sI (si_sI π 34 1 (nI (z + 1))) 29 14 (nI 2)) := (KeepM.cI π (by decide) (by decide) _ _).tr (KeepM.sI _ (by decide) _)
        have kk1 : KeepM [14] [34] τ2 (si_sI (si_sI π 34 1 (nI (z + 1))) 29 14 (nI 2)) := ((k0.mono (by decide) (by decide)).tr a3).tr k1
        have N1 := r2.of kk1 (by decide) (by decide) (by decide)
        obtain ⟨π2, p1, p2, p3⟩ := s_X9_putRow hs1 (by simp; omega) o1.2.2 N1 (rmv_ok hG) hko.1
        have er1 : rowP S.1[k].1 (S.1[k].2.take 1 ++ [z + 1]) = some (S.1[k].1, S.1[k].2.take 1 ++ [z + 1]) := by unfold rowP; rw [if_pos o1.2.1]
        rw [er1] at p2
        have kk2 : KeepM [11, 12, 14] [33, 34] τ2 π2 := (kk1.mono (by decide) (by decide)).tr (p3.mono (by decide) (by decide))
        have C2 := r1.of kk2 (by decide) (by decide) (by decide)
        -- the second
        have k2 : KeepM [14] [] π2 (si_sI π2 29 14 (nI 0)) := KeepM.sI π2 (by decide) _
        obtain ⟨π3, u1, u2, u3⟩ := s_X9_addRow hko (show 1 ≤ S.1[k].2.length by omega) (Nat.le_refl _) (Rw.nil π2) (by simp)
        rw [List.take_length, List.nil_append] at u2
        have kk3 : KeepM [14] [34] π2 π3 := (k2.mono (by decide) (by decide)).tr u3
        have N3 := p2.of kk3 (by decide) (by decide) (by decide)
        obtain ⟨π4, v1, v2, v3⟩ := s_X9_putRow u2 (by rw [List.length_drop]; omega) o2.2.2 N3 (cadd_some_ok (S := (rmv S.1[k] S.1, false)) (rmv_ok hG) o1) hz
        have er2 : rowP z (S.1[k].2.drop 1) = some (z, S.1[k].2.drop 1) := by unfold rowP; rw [if_pos o2.2.1]
        rw [er2] at v2
        have kk4 : KeepM [11, 12, 14] [33, 34] τ2 π4 := (kk2.tr (kk3.mono (by decide) (by decide))).tr (v3.mono (by decide) (by decide))
        have C4 := r1.of kk4 (by decide) (by decide) (by decide)
        obtain ⟨π5, w1, w2, w3⟩ := s_X9_step (sp1_ok hG hko hz).1 v2 C4
        refine ⟨π5, ?_, ?_, (r4.tr (kk4.mono (by decide) (by decide))).tr (w3.mono (by decide) (by decide))⟩
        · refine Eq.trans f1 ?_
          try dsimp only
          have eπ : (π.2 44 k) = lN (en S.1[k]) := by
            have := (((k0.mono (F' := [14]) (S' := [34]) (by decide) (by decide)).tr a3).1 44 (by decide) (by decide)).2
            rw [this]; exact r1.2.2.at hk
          rw [h_X9_cut_66, r1.1, cT (nI_le (Nat.le_refl _) (by omega)), inT (show k < 60 by omega) (by decide), nI_clamp (by omega), r1.2.2.at hk, a1, cv_s, inT (show 1 < 32 by decide) (by decide), nI_clamp (show 1 < 2 ^ 31 by decide), nI_add, inT (show k < 60 by omega) (by decide), eπ, s_X9_left hko, ci_s, p1, cv_s, inT (show k < 60 by omega) (by decide), inT (show k < 60 by omega) (by decide), C2.2.2.at hk, s_X9_size hko, ci_s, u1, cv_s, v1, cv_s, w1, cv_s]
          rfl
        · rw [hf0, Bool.false_or] at w2
          exact w2
theorem fact_toChomsky (σ : si_M) (h : gI σ) : ∃ (r : Int32) (σ1 σ2 : si_M), si_sc gP nX8_toChomsky (.ref 0 :: []) σ = some (some (.int r), σ1) ∧ si_sc gP nX9_toChomsky (.ref 29 :: []) σ1 = some (some (.int r), σ2) ∧ gI σ2 := by
  refine fact_i h (fun A => if A.2.1.any emB || A.2.1.any unB then -8 else finR (itr spF 17 (vlA 0 (A.2.1, false)))) (fun A => if A.2.1.any emB || A.2.1.any unB then A else finA (itr spF 17 (vlA 0 (A.2.1, false))) A) (fun A hA => ?_) (fun A σ hA h => ?_) (fun A σ hA h => ?_)
  · try dsimp only
    split
    · exact hA
    · exact finA_ok (itr_inv (P := fun S : List PR × Bool => Gok S.1) (fun S h => spF_ok h) 17 _ (vlA_ok hA.2.1)) hA
  · try dsimp only
    rw [e_X8_toChomsky, s_X2_hasEmpty h.2.2.1 hA.2.1, ci_s, bn]
    cases he : A.2.1.any emB with
    | true => exact ⟨σ, rfl, h, KC.rf⟩
    | false =>
      rw [cond_false, s_X2_hasUnit h.2.2.1 hA.2.1, ci_s, bz]
      cases hu : A.2.1.any unB with
      | true => exact ⟨σ, rfl, h, KC.rf⟩
      | false =>
        obtain ⟨τ1, b1, b2, b3⟩ := s_X7_begin hA h
        obtain ⟨τ2, S, c1, c2, c3, c4, c5⟩ := s_X7_nameTerminals b2 hA.2.1 (f := 0) (by decide)
        obtain ⟨τ3, d1, d2, d3⟩ := s_X7_splitLong c2 c3
        obtain ⟨ρ, f1, f2, f3⟩ := fin_c h ((b3.tr c5).tr d3) d2 (itr_inv (P := fun S : List PR × Bool => Gok S.1) (fun S h => spF_ok h) 17 _ c3) (Req.lift (F := itr spF 17) (fun S hS => by rw [itr_fix (spF_fl hS)]; exact hS) c4)
        rw [cond_false, b1, cv_s, c1, cv_s, d1, cv_s, f1, ci_s]
        exact ⟨ρ, rfl, f2, f3⟩
  · try dsimp only
    rw [e_X9_toChomsky, s_X9_hasEmpty h.2.2.1 h.2.2.2.1 hA.2.1, ci_s, bn]
    cases he : A.2.1.any emB with
    | true => exact ⟨σ, rfl, h, KM.rf⟩
    | false =>
      rw [cond_false, s_X9_hasUnit h.2.2.1 h.2.2.2.1 hA.2.1, ci_s, bz]
      cases hu : A.2.1.any unB with
      | true => exact ⟨σ, rfl, h, KM.rf⟩
      | false =>
        obtain ⟨τ1, b1, b2, b3⟩ := s_X9_start hA h
        obtain ⟨τ2, S, c1, c2, c3, c4, c5⟩ := s_X9_veilAll b2 hA.2.1 true
        rw [cond_false, b1, cv_s, show nI 1 = bI true from rfl, c1, cv_s]
        have loop : ∀ (n : Nat) (S : List PR × Bool) (τ : si_M), mea S ≤ n → Gok S.1 → Cp τ S → ∃ τ', si_sem gP nX9_toChomsky 28 [.ref 29, .int (bI true)] [] τ = si_sem gP nX9_toChomsky 28 [.ref 29, .int (bI false)] [] τ' ∧ Cp τ' (itr spF n S) ∧ KeepM mF mS τ τ' := by
          intro n
          induction n with
          | zero =>
            intro S τ hn hG hC
            have h2 : S.2 = true := by
              cases hb : S.2 with
              | true => rfl
              | false => unfold mea at hn; rw [hb, if_neg (by decide)] at hn; omega
            obtain ⟨τ', a1, a2, a3⟩ := s_X9_cut hC hG
            rw [h_X9_toChomsky_28, bz, cond_true, a1, ci_s]
            have : spB S = false := by unfold spB; rw [h2]; rfl
            rw [this]
            rw [spF_fl h2] at a2
            exact ⟨τ', rfl, a2, a3⟩
          | succ n ih =>
            intro S τ hn hG hC
            obtain ⟨τ', a1, a2, a3⟩ := s_X9_cut hC hG
            rw [h_X9_toChomsky_28, bz, cond_true, a1, ci_s]
            cases hb : spB S with
            | true =>
              have hlt : mea (spF S) < mea S := by
                rcases spF_mea hG with h | h
                · exfalso
                  unfold spB at hb
                  simp only [Bool.and_eq_true, Bool.not_eq_true'] at hb
                  obtain ⟨⟨e1, e2⟩, e3⟩ := hb
                  obtain ⟨p, e2⟩ := Option.isSome_iff_exists.mp e2
                  obtain ⟨z, e3⟩ := Option.isSome_iff_exists.mp e3
                  unfold spF at h
                  rw [if_neg (by rw [e1]; decide), e2, e3] at h
                  try dsimp only at h
                  have hpo := fLo_in e2
                  have hfl : (sp1 p z S.1).2 = false := by rw [h]; exact e1
                  unfold sp1 at hfl
                  obtain ⟨g1, p1, g2, g3⟩ := cadd_f hfl
                  have : (z, p.2.drop 1) ∈ (sp1 p z S.1).1 := by unfold sp1; exact (g3 _).mpr (Or.inl (Option.some.inj g2))
                  rw [h] at this
                  have hu := uB_iff.mpr (Or.inr ⟨_, this, Or.inl rfl⟩)
                  rw [fre_free e3] at hu
                  cases hu
                · exact h
              obtain ⟨τ'', t1, t2, t3⟩ := ih (spF S) τ' (by omega) (spF_ok hG) a2
              rw [t1]
              exact ⟨τ'', rfl, t2, a3.tr t3⟩
            | false =>
              refine ⟨τ', rfl, ?_, a3⟩
              have hfix : spF (spF S) = spF S := by
                unfold spB at hb
                cases e1 : S.2 with
                | true => rw [spF_fl e1, spF_fl e1]
                | false =>
                  cases e2 : fLo S.1 with
                  | none => rw [spF_none e2, spF_none e2]
                  | some p =>
                    cases e3 : fre S.1 with
                    | some z => rw [e1, e2, e3] at hb; cases hb
                    | none =>
                      apply spF_fl
                      unfold spF
                      rw [if_neg (by rw [e1]; decide), e2, e3]
              show Cp τ' (itr spF n (spF S))
              rw [itr_fix hfix]
              exact a2
        obtain ⟨τ3, t1, t2, t3⟩ := loop 17 S τ2 (Nat.le_trans (mea_le S) (by decide)) c3 c2
        obtain ⟨ρ, f1, f2, f3⟩ := fin_m h ((b3.tr c5).tr t3) t2 (itr_inv (P := fun S : List PR × Bool => Gok S.1) (fun S h => spF_ok h) 17 _ c3) (Req.lift (F := itr spF 17) (fun S hS => by rw [itr_fix (spF_fl hS)]; exact hS) c4)
        rw [t1, h_X9_toChomsky_28, bz, cond_false, f1, ci_s]
        exact ⟨ρ, rfl, f2, f3⟩
