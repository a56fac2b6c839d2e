/-! removeLeftRecursion: recursion is turned -/
theorem rowP_ext (x : Nat) (w : List Nat) (a : Nat) : rowP x (w ++ [a]) = ext (x, w) a := by
  unfold rowP ext
  rw [List.length_append]
  by_cases h : w.length < 8
  · rw [if_pos (show w.length + [a].length ≤ 8 by simp; omega), if_pos h]
  · rw [if_neg (show ¬ w.length + [a].length ≤ 8 by simp; omega), if_neg h]
def r1G (x : Nat) (G : List PR) : List PR := rmv (x, [x + 1]) G
def rcB (x : Nat) (G : List PR) : Bool := (r1G x G).any (fun q => bgB q x x)
def tuL (x z : Nat) (p : PR) : List (Option PR) := if bgB p x x then [ext (z, p.2.drop 1) (z + 1), some (z, p.2.drop 1)] else if p.1 = x then [ext p (z + 1), some p] else [some p]
def tuF (x : Nat) (S : List PR × Bool) : List PR × Bool := if S.2 then S else if rcB x S.1 then (match fre (r1G x S.1) with
  | none => (r1G x S.1, true)
  | some z => addall ((r1G x S.1).flatMap (tuL x z)) ([], false)) else (r1G x S.1, false)
theorem okp_self {x : Nat} (hx : x < 16) : okp (x, [x + 1]) := okp_one hx ⟨by omega, by omega⟩
theorem okp_dr {p : PR} (h : okp p) {z : Nat} (hz : z < 16) : okp (z, p.2.drop 1) := ⟨hz, by rw [List.length_drop]; have := h.2.1; omega, fun a ha => h.2.2 a (List.mem_of_mem_drop ha)⟩
theorem tuL_ook {x z : Nat} {p : PR} (hp : okp p) (hz : z < 16) : Ook (tuL x z p) := by
  intro o ho q hq
  unfold tuL at ho
  split at ho
  · rcases List.mem_cons.mp ho with h | h
    · rw [h] at hq; exact ext_ok (okp_dr hp hz) ⟨by omega, by omega⟩ q hq
    · rw [List.mem_singleton.mp h] at hq; rw [← Option.some.inj hq]; exact okp_dr hp hz
  · split at ho
    · rcases List.mem_cons.mp ho with h | h
      · rw [h] at hq; exact ext_ok hp ⟨by omega, by omega⟩ q hq
      · rw [List.mem_singleton.mp h] at hq; rw [← Option.some.inj hq]; exact hp
    · rw [List.mem_singleton.mp ho] at hq; rw [← Option.some.inj hq]; exact hp
theorem tu_ook {x z : Nat} {G : List PR} (hG : Oks G) (hz : z < 16) : Ook (G.flatMap (tuL x z)) := by
  intro o ho q hq
  obtain ⟨p, hp, h⟩ := List.mem_flatMap.mp ho
  exact tuL_ook (hG p hp) hz o h q hq
theorem r1G_ok {x : Nat} {G : List PR} (hG : Gok G) : Gok (r1G x G) := rmv_ok hG
theorem tuF_ok {x : Nat} {S : List PR × Bool} (hS : Gok S.1) : Gok (tuF x S).1 := by
  unfold tuF
  split
  · exact hS
  · split
    · split
      · exact r1G_ok hS
      · rename_i z hz
        exact addall_ok _ (tu_ook (r1G_ok hS).2.1 (fre_lt hz)) Gok.nil
    · exact r1G_ok hS
theorem tuF_fl {x : Nat} {S : List PR × Bool} (h : S.2 = true) : tuF x S = S := by unfold tuF; rw [if_pos h]
theorem bg_len {q : PR} {x y : Nat} (h : bgB q x y = true) : 0 < q.2.length := by
  have h2 := (bgB_iff.mp h).2
  rcases Nat.lt_or_ge 0 q.2.length with h3 | h3
  · exact h3
  · rw [getD_out h3] at h2; omega
theorem s_X7_isRecursive {σ : si_M} {S : List PR × Bool} (hm : Gm σ 25 S) (hG : Gok S.1) {x : Nat} (hx : x < 16) : si_sc gP nX7_isRecursive [.ref 24, .int (nI x)] σ = some (some (.int (bI (S.1.any (fun q => bgB q x x)))), σ) := by
  have hl := hG.1
  have := lp_any (F := fun i => si_sem gP nX7_isRecursive 2 [.ref 24, .int (nI x), .int (nI i)] [] σ) (G := S.1) (p := fun q => bgB q x x) (X := some (some (.int (nI 1)), σ)) (Y := some (some (.int (nI 0)), σ)) (fun i hi => by
    try dsimp only
    have hok := hG.2.1.at hi
    rw [h_X7_isRecursive_2, e_X2_count 25 (by decide), ci_s, hm.1, cF (nI_ge hi (by omega)), s_X2_at (by decide) hm hl hi, cl_s, s_X5_begins hok hx (by omega), ci_s, bz, nI_add]) (by
    try dsimp only
    rw [h_X7_isRecursive_2, e_X2_count 25 (by decide), ci_s, hm.1, cT (nI_le (Nat.le_refl _) (by omega))]) 0 (Nat.zero_le _)
  rw [e_X7_isRecursive]
  refine Eq.trans this ?_
  rw [List.drop_zero]
  cases S.1.any (fun q => bgB q x x) <;> rfl
theorem s_X7_turnRecursion {σ : si_M} {S : List PR × Bool} (hm : Gm σ 25 S) (hf0 : S.2 = false) (hG : Gok S.1) {x : Nat} (hx : x < 16) : ∃ τ, si_sc gP nX7_turnRecursion [.ref 24, .int (nI x)] σ = some (none, τ) ∧ Gm τ 25 (tuF x S) ∧ Keep csc σ τ := by
  have hex := s_X5_extended (a := x + 1) (okp_nil hx) ⟨by omega, by omega⟩ σ
  rw [show x + 1 - 1 = x from rfl, show ext (x, []) (x + 1) = some (x, [x + 1]) from rfl] at hex
  obtain ⟨τ1, b1, b2, b3⟩ := s_X2_remove' hm hG (okp_self hx)
  rw [hf0] at b2
  have hG1 : Gok (r1G x S.1) := r1G_ok hG
  have hl1 := hG1.1
  have b2 : Gm τ1 25 (r1G x S.1, false) := b2
  have hrc := s_X7_isRecursive b2 hG1 hx
  rw [e_X7_turnRecursion, s_X5_withoutRight hx, cl_s, hex, cl_s, show pv (some (x, [x + 1])) = lN (en (x, [x + 1])) from rfl, b1, cv_s, hrc, ci_s, bn]
  unfold tuF
  rw [if_neg (by rw [hf0]; decide)]
  cases hb : (r1G x S.1).any (fun q => bgB q x x) with
  | false =>
    have : rcB x S.1 = false := hb
    rw [cond_false, this, if_neg (by decide)]
    exact ⟨τ1, rfl, b2, b3.mono (by decide)⟩
  | true =>
    have : rcB x S.1 = true := hb
    rw [cond_true, this, if_pos rfl, s_X2_freeNonterminal b2 hG1, ci_s]
    cases hfr : fre (r1G x S.1) with
    | none =>
      obtain ⟨τ, a1, a2, a3⟩ := s_X2_refuse' b2
      rw [show fI none = (-1 : Int32) from rfl, nF rfl, a1, cv_s]
      exact ⟨τ, rfl, a2, (b3.mono (by decide)).tr a3⟩
    | some z =>
      have hz := fre_lt hfr
      obtain ⟨τ2, c1, c2, c3, c4⟩ := s_X7_beginStep b2 hl1
      rw [show fI (some z) = nI z from rfl, nT (fI_ne hz), c1, cv_s]
      obtain ⟨τ3, d1, d2⟩ := lp_ex (F := fun i τ => si_sem gP nX7_turnRecursion 51 [.ref 24, .int (nI x), .int (nI z), .int (nI i), si_U, si_U] [] τ) (G := r1G x S.1) (f := fun T q => addall (tuL x z q) T) (R := fun τ T => Gm τ 27 (r1G x S.1, false) ∧ Gm τ 25 T ∧ Gok T.1 ∧ Keep csc σ τ) (fun i τ T hi hR => by
        obtain ⟨r1, r2, r3, r4⟩ := hR
        have hok := hG1.2.1.at hi
        have hq8 := hok.2.1
        have hle := hok.1
        have hal := addall_ok (tuL x z (r1G x S.1)[i]) (tuL_ook hok hz) r3
        try dsimp only
        rw [h_X7_turnRecursion_51, e_X2_count 27 (by decide), ci_s, r1.1, cF (nI_ge hi (show (r1G x S.1).length < 2 ^ 31 by omega)), s_X2_at (by decide) r1 hl1 hi, cl_s, s_X5_begins hok hx (by omega), ci_s, bz, nI_add]
        cases hb : bgB (r1G x S.1)[i] x x with
        | true =>
          have hln := bg_len hb
          have hdo := okp_dr hok hz
          have hxo := ext_ok hdo (a := z + 1) ⟨by omega, by omega⟩
          have e1 : joi (z, []) (r1G x S.1)[i].2 1 = some (z, (r1G x S.1)[i].2.drop 1) := by
            unfold joi
            rw [if_pos (by simp; omega)]
            rfl
          have e2 : tuL x z (r1G x S.1)[i] = [ext (z, (r1G x S.1)[i].2.drop 1) (z + 1), some (z, (r1G x S.1)[i].2.drop 1)] := by unfold tuL; rw [if_pos hb]
          have hex2 := s_X5_extended (a := z + 1) hdo ⟨by omega, by omega⟩ τ
          rw [show z + 1 - 1 = z from rfl] at hex2
          obtain ⟨τ', a1, a2, a3, a4⟩ := s_X2_add25 r2 r1 r3 hxo
          obtain ⟨τ'', u1, u2, u3, u4⟩ := s_X2_add25 a2 a3 (Gok.add hxo r3) (o := some (z, (r1G x S.1)[i].2.drop 1)) (fun p hp => by cases hp; exact hdo)
          rw [cond_true, s_X5_withoutRight hz, cl_s, s_X5_joined (okp_nil hz) hok hln, cl_s, e1, show pv (some (z, (r1G x S.1)[i].2.drop 1)) = lN (en (z, (r1G x S.1)[i].2.drop 1)) from rfl, hex2, cl_s, a1, cv_s, show lN (en (z, (r1G x S.1)[i].2.drop 1)) = pv (some (z, (r1G x S.1)[i].2.drop 1)) from rfl, u1, cv_s]
          rw [e2] at hal ⊢
          exact ⟨τ'', rfl, u3, u2, hal, (r4.tr a4).tr u4⟩
        | false =>
          rw [cond_false, s_X5_left hok, ci_s]
          by_cases e : (r1G x S.1)[i].1 = x
          · have hxo := ext_ok hok (a := z + 1) ⟨by omega, by omega⟩
            have e2 : tuL x z (r1G x S.1)[i] = [ext (r1G x S.1)[i] (z + 1), some (r1G x S.1)[i]] := by unfold tuL; rw [hb, if_neg (by decide), if_pos e]
            have hex2 := s_X5_extended (a := z + 1) hok ⟨by omega, by omega⟩ τ
            rw [show z + 1 - 1 = z from rfl] at hex2
            obtain ⟨τ', a1, a2, a3, a4⟩ := s_X2_add25 r2 r1 r3 hxo
            obtain ⟨τ'', u1, u2, u3, u4⟩ := s_X2_add25 a2 a3 (Gok.add hxo r3) (o := some (r1G x S.1)[i]) (fun p hp => by cases hp; exact hok)
            rw [nF (by rw [e]), hex2, cl_s, a1, cv_s, show lN (en (r1G x S.1)[i]) = pv (some (r1G x S.1)[i]) from rfl, u1, cv_s]
            rw [e2] at hal ⊢
            exact ⟨τ'', rfl, u3, u2, hal, (r4.tr a4).tr u4⟩
          · have e2 : tuL x z (r1G x S.1)[i] = [some (r1G x S.1)[i]] := by unfold tuL; rw [hb, if_neg (by decide), if_neg e]
            obtain ⟨τ', a1, a2, a3, a4⟩ := s_X2_add25 r2 r1 r3 (o := some (r1G x S.1)[i]) (fun p hp => by cases hp; exact hok)
            rw [nT (nI_eqF e (by omega) (by omega)), show lN (en (r1G x S.1)[i]) = pv (some (r1G x S.1)[i]) from rfl, a1, cv_s]
            rw [e2] at hal ⊢
            exact ⟨τ', rfl, a3, a2, hal, r4.tr a4⟩) τ2 ([], false) ⟨c2, c3, Gok.nil, (b3.mono (by decide)).tr c4⟩
      rw [fold_addall (L := tuL x z) (fun S o => rfl)] at d2
      obtain ⟨r1, r2, r3, r4⟩ := d2
      refine ⟨τ3, ?_, r2, r4⟩
      refine Eq.trans d1 ?_
      try dsimp only
      rw [h_X7_turnRecursion_51, e_X2_count 27 (by decide), ci_s, r1.1, cT (nI_le (Nat.le_refl _) (show (r1G x S.1).length < 2 ^ 31 by omega))]
-- the model
theorem s_X9_beginsWithItself {q : PR} (hq : okp q) (σ : si_M) : si_sc gP nX9_beginsWithItself [.ref 29, .long (lN (en q))] σ = some (some (.int (bI (decide (q.2.getD 0 0 = q.1 + 1)))), σ) := by
  have h1 := getD31 hq 0
  have h2 := hq.1
  rw [e_X9_beginsWithItself, s_X9_at hq (by decide), ci_s, s_X9_left hq, ci_s, nI_add]
  by_cases e : q.2.getD 0 0 = q.1 + 1
  · rw [nF (by rw [e]), decide_eq_true e]; rfl
  · rw [nT (nI_eqF e (by omega) (by omega)), decide_eq_false e]; rfl
def muB (x : Nat) (q : PR) : Bool := bgB q x x && decide (1 < q.2.length)
theorem mu_iff {x : Nat} {q : PR} : (bgB q x x = true ∧ q ≠ (x, [x + 1])) ↔ muB x q = true := by
  unfold muB
  rw [Bool.and_eq_true, decide_eq_true_eq]
  constructor
  · rintro ⟨h1, h2⟩
    refine ⟨h1, ?_⟩
    have h3 := bg_len h1
    obtain ⟨h4, h5⟩ := bgB_iff.mp h1
    rcases Nat.lt_or_ge 1 q.2.length with h | h
    · exact h
    · exfalso
      apply h2
      match hw : q.2 with
      | [] => rw [hw] at h3; simp at h3
      | [a] => rw [hw] at h5; simp at h5; exact Prod.ext h4 (by rw [hw, h5])
      | a :: b :: w => rw [hw] at h; simp at h
  · rintro ⟨h1, h2⟩
    refine ⟨h1, fun e => ?_⟩
    rw [e] at h2
    simp at h2
theorem mu_any {x : Nat} (hx : x < 16) {G : List PR} (hG : Gok G) : G.any (muB x) = rcB x G := by
  unfold rcB r1G
  rw [Bool.eq_iff_iff, List.any_eq_true, List.any_eq_true]
  constructor
  · rintro ⟨q, hq, h⟩
    obtain ⟨h1, h2⟩ := mu_iff.mpr h
    exact ⟨q, (rmv_mem (okp_self hx) hG q).mpr ⟨hq, h2⟩, h1⟩
  · rintro ⟨q, hq, h⟩
    obtain ⟨h1, h2⟩ := (rmv_mem (okp_self hx) hG q).mp hq
    exact ⟨q, h1, mu_iff.mp ⟨h, h2⟩⟩
theorem fre_r1 {x : Nat} (hx : x < 16) {G : List PR} (hG : Gok G) (h : rcB x G = true) : fre (r1G x G) = fre G := by
  unfold rcB at h
  obtain ⟨q, hq, hb⟩ := List.any_eq_true.mp h
  obtain ⟨h1, h2⟩ := bgB_iff.mp hb
  have hln := bg_len hb
  have hmem : (x + 1) ∈ q.2 := by
    rw [gD hln] at h2
    rw [← h2]
    exact List.getElem_mem _
  have e : ∀ i, uB (r1G x G) i = uB G i := by
    intro i
    rw [Bool.eq_iff_iff, uB_iff, uB_iff]
    constructor
    · rintro (h | ⟨r, hr, h⟩)
      · exact Or.inl h
      · exact Or.inr ⟨r, ((rmv_mem (okp_self hx) hG r).mp hr).1, h⟩
    · rintro (h | ⟨r, hr, h⟩)
      · exact Or.inl h
      · by_cases hr2 : r = (x, [x + 1])
        · subst hr2
          rcases h with h | h
          · exact Or.inr ⟨q, hq, Or.inl (h1.trans h)⟩
          · have : i + 1 = x + 1 := by simpa using h
            exact Or.inr ⟨q, hq, Or.inr (by rw [this]; exact hmem)⟩
        · exact Or.inr ⟨r, (rmv_mem (okp_self hx) hG r).mpr ⟨hr, hr2⟩, h⟩
  unfold fre
  congr 1
  funext i
  rw [e i]
theorem s_X9_putTail {σ : si_M} {S : List PR × Bool} (hn : Nx σ S) (hS : Gok S.1) {p : PR} (hp : okp p) {z : Nat} (hz : z < 16) (h1 : 1 < p.2.length) : ∃ τ, si_sc gP nX9_putTail [.ref 29, .long (lN (en p)), .int (nI z)] σ = some (none, τ) ∧ Nx τ (addall [some (z, p.2.drop 1), ext (z, p.2.drop 1) (z + 1)] S) ∧ KeepM [11, 12, 14] [33, 34] σ τ := by
  have hp8 := hp.2.1
  have hdo := okp_dr hp hz
  have k1 : KeepM [14] [] σ (si_sI σ 29 14 (nI 0)) := KeepM.sI σ (by decide) _
  obtain ⟨π, a1, a2, a3⟩ := s_X9_addRow hp (show 1 ≤ p.2.length by omega) (Nat.le_refl _) (Rw.nil σ) (by simp)
  rw [List.take_length, List.nil_append] at a2
  have hdl : (p.2.drop 1).length ≤ 7 := by rw [List.length_drop]; omega
  have n1 := (hn.of k1 (by decide) (by decide) (by decide)).of a3 (by decide) (by decide) (by decide)
  obtain ⟨π2, o1, o2, o3⟩ := s_X9_putRow a2 (by omega) hdo.2.2 n1 hS hz
  have er : rowP z (p.2.drop 1) = some (z, p.2.drop 1) := by unfold rowP; rw [if_pos (by omega)]
  rw [er] at o2
  have rw2 := a2.of o3 (by decide) (by decide)
  have hs := rw2.snoc (z + 1)
  have k2 : KeepM [14] [34] π2 (si_sI (si_sI π2 34 (p.2.drop 1).length (nI (z + 1))) 29 14 (nI ((p.2.drop 1).length + 1))) := (KeepM.cI π2 (by decide) (by decide) _ _).tr (KeepM.sI _ (by decide) _)
  obtain ⟨π3, u1, u2, u3⟩ := s_X9_putRow hs (by simp; omega) (fun a ha => by
    rcases List.mem_append.mp ha with h | h
    · exact hdo.2.2 a h
    · rw [List.mem_singleton.mp h]; omega) (o2.of k2 (by decide) (by decide) (by decide)) (cadd_some_ok hS hdo) hz
  rw [rowP_ext] at u2
  rw [e_X9_putTail, s_X9_size hp, ci_s, cF (nI_ge h1 (by omega)), s_X9_size hp, ci_s, a1, cv_s, o1, cv_s, rw2.1, inT (show (p.2.drop 1).length < 32 by omega) (by decide), nI_clamp (by omega), nI_add, nI_add, u1, cv_s]
  exact ⟨π3, rfl, u2, ((((k1.mono (by decide) (by decide)).tr (a3.mono (by decide) (by decide))).tr (o3.mono (by decide) (by decide))).tr (k2.mono (by decide) (by decide))).tr (u3.mono (by decide) (by decide))⟩
theorem s_X9_putTail0 {σ : si_M} {p : PR} (hp : okp p) (a : Int32) (h1 : ¬ 1 < p.2.length) : si_sc gP nX9_putTail [.ref 29, .long (lN (en p)), .int a] σ = some (none, σ) := by
  rw [e_X9_putTail, s_X9_size hp, ci_s, cT (nI_le (show p.2.length ≤ 1 by omega) (by decide))]
def unM (x z : Nat) (p : PR) : List (Option PR) := if bgB p x x then (if 1 < p.2.length then [some (z, p.2.drop 1), ext (z, p.2.drop 1) (z + 1)] else []) else if p.1 = x then [some p, ext p (z + 1)] else [some p]
theorem un_mem {x : Nat} (hx : x < 16) {G : List PR} (hG : Gok G) (z : Nat) (o : Option PR) : o ∈ G.flatMap (unM x z) ↔ o ∈ (r1G x G).flatMap (tuL x z) := by
  rw [List.mem_flatMap, List.mem_flatMap]
  have hrm := rmv_mem (okp_self hx) hG
  constructor
  · rintro ⟨q, hq, h⟩
    unfold unM at h
    split at h
    · rename_i hb
      split at h
      · rename_i hl
        refine ⟨q, (hrm q).mpr ⟨hq, (mu_iff.mpr (by unfold muB; rw [hb, decide_eq_true hl]; rfl)).2⟩, ?_⟩
        unfold tuL
        rw [if_pos hb]
        simp only [List.mem_cons, List.not_mem_nil, or_false] at h ⊢
        exact h.symm
      · cases h
    · rename_i hb
      refine ⟨q, (hrm q).mpr ⟨hq, fun e => hb ?_⟩, ?_⟩
      · rw [e]; exact bgB_iff.mpr ⟨rfl, rfl⟩
      · unfold tuL
        rw [if_neg hb]
        split at h
        · rename_i e
          rw [if_pos e]
          simp only [List.mem_cons, List.not_mem_nil, or_false] at h ⊢
          exact h.symm
        · rename_i e
          rw [if_neg e]
          exact h
  · rintro ⟨q, hq, h⟩
    obtain ⟨h1, h2⟩ := (hrm q).mp hq
    refine ⟨q, h1, ?_⟩
    unfold tuL at h
    unfold unM
    split at h
    · rename_i hb
      have hl : 1 < q.2.length := by
        have := mu_iff.mp ⟨hb, h2⟩
        unfold muB at this
        rw [hb, Bool.true_and] at this
        exact of_decide_eq_true this
      rw [if_pos hb, if_pos hl]
      simp only [List.mem_cons, List.not_mem_nil, or_false] at h ⊢
      exact h.symm
    · rename_i hb
      rw [if_neg hb]
      split at h
      · rename_i e
        rw [if_pos e]
        simp only [List.mem_cons, List.not_mem_nil, or_false] at h ⊢
        exact h.symm
      · rename_i e
        rw [if_neg e]
        exact h
