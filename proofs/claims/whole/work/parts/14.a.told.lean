/-! removeLeftRecursion: telling a first symbol -/
theorem lp_cap2 {β : Type} {F : Nat → si_M → Option si_O} {G : List β} {f : (List PR × Bool) → β → (List PR × Bool)} {R : si_M → (List PR × Bool) → Prop} (hf : ∀ S b, S.2 = true → (f S b).2 = true) (hs : ∀ i τ S (hi : i < G.length), R τ S → S.2 = false → ∃ τ', F i τ = F (i + 1) τ' ∧ R τ' (f S G[i])) (hx : ∀ i τ S, i < G.length → R τ S → S.2 = true → F i τ = F G.length τ) (τ : si_M) (S : List PR × Bool) (h : R τ S) : ∃ τ' S', F 0 τ = F G.length τ' ∧ R τ' S' ∧ Req S' (G.foldl f S) := by
  have keep : ∀ (l : List β) (S : List PR × Bool), S.2 = true → (l.foldl f S).2 = true := by
    intro l
    induction l with
    | nil => intro S h; exact h
    | cons b l ih => intro S h; exact ih _ (hf S b h)
  have key : ∀ (d i : Nat) (τ : si_M) (S : List PR × Bool), i + d = G.length → R τ S → ∃ τ' S', F i τ = F G.length τ' ∧ R τ' S' ∧ Req S' ((G.drop i).foldl f S) := by
    intro d
    induction d with
    | zero =>
      intro i τ S hd h
      have e : i = G.length := by omega
      subst e
      refine ⟨τ, S, rfl, h, ?_⟩
      rw [List.drop_length]
      exact Req.rf S
    | succ d ih =>
      intro i τ S hd h
      have hi : i < G.length := by omega
      cases hS : S.2 with
      | true => exact ⟨τ, S, hx i τ S hi h hS, h, Req.of_true hS (keep _ _ hS)⟩
      | false =>
        obtain ⟨τ', e1, e2⟩ := hs i τ S hi h hS
        obtain ⟨τ'', S', e3, e4, e5⟩ := ih (i + 1) τ' _ (by omega) e2
        refine ⟨τ'', S', e1.trans e3, e4, ?_⟩
        rw [List.drop_eq_getElem_cons hi]
        exact e5
  exact key G.length 0 τ S (by omega) h
theorem fold_if (c : PR → Bool) (g : PR → Option PR) : ∀ (l : List PR) (S : List PR × Bool), l.foldl (fun S q => if c q then cadd (g q) S else S) S = addall ((l.filter c).map g) S := by
  intro l
  induction l with
  | nil => intro S; rfl
  | cons q l ih =>
    intro S
    rw [List.foldl_cons, ih, List.filter_cons]
    cases c q <;> rfl
/-- what a production becomes if its first symbol is told -/
def exL (y : Nat) (p : PR) (G : List PR) : List (Option PR) := (G.filter (fun r => decide (r.1 = y))).map (fun r => rowP p.1 (r.2 ++ p.2.drop 1))
theorem rowP_joi (x : Nat) (u v : List Nat) (f : Nat) : rowP x (u ++ v.drop f) = joi (x, u) v f := by
  unfold rowP joi
  rw [List.length_append, List.length_drop]
theorem exL_ook {y : Nat} {p : PR} {G : List PR} (hp : okp p) (hG : Oks G) : Ook (exL y p G) := by
  intro o ho q hq
  unfold exL at ho
  obtain ⟨r, hr, e⟩ := List.mem_map.mp ho
  have hro := hG r (List.mem_filter.mp hr).1
  rw [hq] at e
  exact rowP_ok hp.1 (fun a ha => by
    rcases List.mem_append.mp ha with h | h
    · exact hro.2.2 a h
    · exact hp.2.2 a (List.mem_of_mem_drop h)) q e
theorem s_X7_addExpansions {σ : si_M} {T S : List PR × Bool} (hT : Gok T.1) (hb : Gm σ 27 T) (hm : Gm σ 25 S) (hS : Gok S.1) {p : PR} (hp : okp p) {y : Nat} (hy : y < 16) (hf : p.2.getD 0 0 = y + 1) : ∃ τ, si_sc gP nX7_addExpansions [.ref 24, .long (lN (en p))] σ = some (none, τ) ∧ Gm τ 25 (addall (exL y p T.1) S) ∧ Gm τ 27 T ∧ Keep csc σ τ := by
  have hl := hT.1
  have hp8 := hp.2.1
  have hlen : 0 < p.2.length := by
    rcases Nat.lt_or_ge 0 p.2.length with h | h
    · exact h
    · rw [getD_out h] at hf; omega
  have hsy : sy p 0 = nI y := by rw [sy_in hp hlen, hf]; rfl
  rw [e_X7_addExpansions, s_X5_symbolAt hp (by decide), ci_s, s_X5_left hp, ci_s, s_X5_withoutRight hp.1, cl_s, hsy]
  obtain ⟨τ, c1, c2⟩ := lp_ex (F := fun i τ => si_sem gP nX7_addExpansions 18 [.ref 24, .long (lN (en p)), si_U, .int (nI y), .long (lN (en (p.1, []))), si_U, .int (nI i), si_U, si_U] [] τ) (G := T.1) (f := fun S r => if decide (r.1 = y) then cadd (rowP p.1 (r.2 ++ p.2.drop 1)) S else S) (R := fun τ S => Gm τ 27 T ∧ Gm τ 25 S ∧ Gok S.1 ∧ Keep csc σ τ) (fun i τ S hi hR => by
    obtain ⟨r1, r2, r3, r4⟩ := hR
    have hok := hT.2.1.at hi
    have hle := hok.1
    try dsimp only
    rw [h_X7_addExpansions_18, e_X2_count 27 (by decide), ci_s, r1.1, cF (nI_ge hi (by omega)), s_X2_at (by decide) r1 hl hi, cl_s, s_X5_left hok, ci_s, nI_add]
    by_cases e : T.1[i].1 = y
    · have hro : okp (p.1, T.1[i].2) := ⟨hp.1, hok.2⟩
      have hjo := joi_ok hro hp 1
      rw [← rowP_joi] at hjo
      obtain ⟨τ', a1, a2, a3, a4⟩ := s_X2_add25 r2 r1 r3 hjo
      rw [nF (by rw [e]), s_X2_at (by decide) r1 hl hi, cl_s, s_X5_joined (okp_nil hp.1) hok (Nat.zero_le _), cl_s, joi0 hok, show pv (some (p.1, T.1[i].2)) = lN (en (p.1, T.1[i].2)) from rfl, s_X5_joined hro hp hlen, cl_s, ← rowP_joi, a1, cv_s, decide_eq_true e, if_pos rfl]
      exact ⟨τ', rfl, a3, a2, Gok.add hjo r3, r4.tr a4⟩
    · rw [nT (nI_eqF e (by omega) (by omega)), decide_eq_false e, if_neg (by decide)]
      exact ⟨τ, rfl, r1, r2, r3, r4⟩) σ S ⟨hb, hm, hS, Keep.rf⟩
  rw [fold_if (fun r => decide (r.1 = y)) (fun r => rowP p.1 (r.2 ++ p.2.drop 1))] at c2
  obtain ⟨r1, r2, r3, r4⟩ := c2
  refine ⟨τ, ?_, r2, r1, r4⟩
  refine Eq.trans c1 ?_
  try dsimp only
  rw [h_X7_addExpansions_18, e_X2_count 27 (by decide), ci_s, r1.1, cT (nI_le (Nat.le_refl _) (by omega))]
theorem s_X9_putTold {σ : si_M} {T S : List PR × Bool} (hT : Gok T.1) (hc : Cp σ T) (hn : Nx σ S) (hS : Gok S.1) {p : PR} (hp : okp p) {y : Nat} (hy : y < 16) (hlen : 0 < p.2.length) : ∃ τ, si_sc gP nX9_putTold [.ref 29, .long (lN (en p)), .int (nI y)] σ = some (none, τ) ∧ Nx τ (addall (exL y p T.1) S) ∧ KeepM [11, 12, 14] [33, 34] σ τ := by
  have hl := hT.1
  have hp8 := hp.2.1
  rw [e_X9_putTold]
  obtain ⟨τ, c1, c2⟩ := lp_ex (F := fun i τ => si_sem gP nX9_putTold 3 [.ref 29, .long (lN (en p)), si_U, .int (nI y), .int (nI i)] [] τ) (G := T.1) (f := fun S r => if decide (r.1 = y) then cadd (rowP p.1 (r.2 ++ p.2.drop 1)) S else S) (R := fun τ S => Nx τ S ∧ Gok S.1 ∧ KeepM [11, 12, 14] [33, 34] σ τ) (fun i τ S hi hR => by
    obtain ⟨r2, r3, r4⟩ := hR
    have r1 : Cp τ T := hc.of r4 (by decide) (by decide) (by decide)
    have hok := hT.2.1.at hi
    have hle := hok.1
    have hq8 := hok.2.1
    try dsimp only
    rw [h_X9_putTold_3, r1.1, cF (nI_ge hi (by omega)), inT (show i < 60 by omega) (by decide), nI_clamp (by omega), r1.2.2.at hi, s_X9_left hok, ci_s, nI_add]
    by_cases e : T.1[i].1 = y
    · have k1 : KeepM [14] [] τ (si_sI τ 29 14 (nI 0)) := KeepM.sI τ (by decide) _
      obtain ⟨π, a1, a2, a3⟩ := s_X9_addRow hok (Nat.zero_le _) (Nat.le_refl _) (Rw.nil τ) (by simp)
      rw [List.take_length, List.drop_zero, List.nil_append] at a2
      obtain ⟨π2, u1, u2, u3⟩ := s_X9_addRow hp hlen (Nat.le_refl _) a2 (by omega)
      rw [List.take_length] at u2
      have kk : KeepM [14] [34] τ π2 := ((k1.mono (by decide) (by decide)).tr a3).tr u3
      have hva : ∀ a ∈ T.1[i].2 ++ p.2.drop 1, 1 ≤ a ∧ a ≤ 24 := fun a ha => by
        rcases List.mem_append.mp ha with h | h
        · exact hok.2.2 a h
        · exact hp.2.2 a (List.mem_of_mem_drop h)
      obtain ⟨π3, o1, o2, o3⟩ := s_X9_putRow u2 (by rw [List.length_append, List.length_drop]; omega) hva (r2.of kk (by decide) (by decide) (by decide)) r3 hp.1
      rw [nF (by rw [e]), inT (show i < 60 by omega) (by decide), inT (show i < 60 by omega) (by decide), r1.2.2.at hi, s_X9_size hok, ci_s, a1, cv_s, s_X9_size hp, ci_s, u1, cv_s, s_X9_left hp, ci_s, o1, cv_s, decide_eq_true e, if_pos rfl]
      exact ⟨π3, rfl, o2, Gok.add (rowP_ok hp.1 hva) r3, r4.tr ((kk.mono (by decide) (by decide)).tr (o3.mono (by decide) (by decide)))⟩
    · rw [nT (nI_eqF e (by omega) (by omega)), decide_eq_false e, if_neg (by decide)]
      exact ⟨τ, rfl, r2, r3, r4⟩) σ S ⟨hn, hS, KeepM.rf⟩
  rw [fold_if (fun r => decide (r.1 = y)) (fun r => rowP p.1 (r.2 ++ p.2.drop 1))] at c2
  obtain ⟨r2, r3, r4⟩ := c2
  have r1 : Cp τ T := hc.of r4 (by decide) (by decide) (by decide)
  refine ⟨τ, ?_, r2, r4⟩
  refine Eq.trans c1 ?_
  try dsimp only
  rw [h_X9_putTold_3, r1.1, cT (nI_le (Nat.le_refl _) (by omega))]
def bgF (x y : Nat) (G : List PR) : List PR := G.filter (fun q => bgB q x y)
def tlF (x y : Nat) (S : List PR × Bool) : List PR × Bool := if S.2 then S else addall ((bgF x y S.1).flatMap (fun p => exL y p S.1)) (rms (bgF x y S.1) S.1, false)
theorem bgB_iff {q : PR} {x y : Nat} : bgB q x y = true ↔ q.1 = x ∧ q.2.getD 0 0 = y + 1 := by
  unfold bgB
  simp
theorem tl_ook {x y : Nat} {G : List PR} (hG : Oks G) : Ook ((bgF x y G).flatMap (fun p => exL y p G)) := by
  intro o ho p hp
  obtain ⟨q, hq, h⟩ := List.mem_flatMap.mp ho
  exact exL_ook (hG q (List.mem_filter.mp hq).1) hG o h p hp
theorem tlF_ok {x y : Nat} {S : List PR × Bool} (hS : Gok S.1) : Gok (tlF x y S).1 := by
  unfold tlF
  split
  · exact hS
  · exact addall_ok _ (tl_ook hS.2.1) (rms_ok _ hS)
theorem tlF_fl {x y : Nat} {S : List PR × Bool} (h : S.2 = true) : tlF x y S = S := by unfold tlF; rw [if_pos h]
theorem s_X7_expandAll {σ : si_M} {S : List PR × Bool} (hm : Gm σ 25 S) (hf0 : S.2 = false) (hG : Gok S.1) {x y : Nat} (hx : x < 16) (hy : y < 16) : ∃ τ, si_sc gP nX7_expandAll [.ref 24, .int (nI x), .int (nI y)] σ = some (none, τ) ∧ Gm τ 25 (tlF x y S) ∧ Keep csc σ τ := by
  have hl := hG.1
  have hS : S = (S.1, false) := by rw [← hf0]
  obtain ⟨τ1, b1, b2, b3, b4⟩ := s_X7_copyBefore hm hl
  rw [e_X7_expandAll, b1, cv_s]
  obtain ⟨τ2, c1, c2⟩ := lp_ex (F := fun i τ => si_sem gP nX7_expandAll 13 [.ref 24, .int (nI x), .int (nI y), .int (nI i)] [] τ) (G := S.1) (f := fun C q => if bgB q x y then rmv q C else C) (R := fun τ C => Gm τ 27 S ∧ Gm τ 25 (C, false) ∧ Gok C ∧ Keep csc σ τ) (fun i τ C hi hR => by
    obtain ⟨r1, r2, r3, r4⟩ := hR
    have hok := hG.2.1.at hi
    try dsimp only
    rw [h_X7_expandAll_13, e_X2_count 27 (by decide), ci_s, r1.1, cF (nI_ge hi (by omega)), s_X2_at (by decide) r1 hl hi, cl_s, s_X5_begins hok hx (by omega), ci_s, bz, nI_add]
    cases hb : bgB S.1[i] x y with
    | false => rw [cond_false]; exact ⟨τ, rfl, r1, r2, r3, r4⟩
    | true =>
      obtain ⟨τ', a1, a2, a3⟩ := s_X2_remove' r2 r3 hok
      rw [cond_true, s_X2_at (by decide) r1 hl hi, cl_s, a1, cv_s]
      exact ⟨τ', rfl, r1.keep a3 (by decide) (by decide), a2, rmv_ok r3, r4.tr (a3.mono (by decide))⟩) τ1 S.1 ⟨b2, by rw [hS] at b3; exact b3, hG, b4⟩
  have efl : ∀ (l C : List PR), l.foldl (fun C q => if bgB q x y then rmv q C else C) C = rms (bgF x y l) C := by
    intro l
    induction l with
    | nil => intro C; rfl
    | cons q l ih =>
      intro C
      rw [List.foldl_cons, ih]
      unfold bgF
      rw [List.filter_cons]
      cases bgB q x y <;> rfl
  rw [efl] at c2
  obtain ⟨r1, r2, r3, r4⟩ := c2
  obtain ⟨τ3, d1, d2⟩ := lp_ex (F := fun i τ => si_sem gP nX7_expandAll 63 [.ref 24, .int (nI x), .int (nI y), .int (nI i)] [] τ) (G := S.1) (f := fun T q => if bgB q x y then addall (exL y q S.1) T else T) (R := fun τ T => Gm τ 27 S ∧ Gm τ 25 T ∧ Gok T.1 ∧ Keep csc σ τ) (fun i τ T hi hR => by
    obtain ⟨r1, r2, r3, r4⟩ := hR
    have hok := hG.2.1.at hi
    try dsimp only
    rw [h_X7_expandAll_63, e_X2_count 27 (by decide), ci_s, r1.1, cF (nI_ge hi (by omega)), s_X2_at (by decide) r1 hl hi, cl_s, s_X5_begins hok hx (by omega), ci_s, bz, nI_add]
    cases hb : bgB S.1[i] x y with
    | false => rw [cond_false]; exact ⟨τ, rfl, r1, r2, r3, r4⟩
    | true =>
      obtain ⟨τ', a1, a2, a3, a4⟩ := s_X7_addExpansions hG r1 r2 r3 hok hy (bgB_iff.mp hb).2
      rw [cond_true, s_X2_at (by decide) r1 hl hi, cl_s, a1, cv_s]
      exact ⟨τ', rfl, a3, a2, addall_ok _ (exL_ook hok hG.2.1) r3, r4.tr a4⟩) τ2 (rms (bgF x y S.1) S.1, false) ⟨r1, r2, r3, r4⟩
  have efl2 : ∀ (l : List PR) (T : List PR × Bool), l.foldl (fun T q => if bgB q x y then addall (exL y q S.1) T else T) T = addall ((bgF x y l).flatMap (fun p => exL y p S.1)) T := by
    intro l
    induction l with
    | nil => intro T; rfl
    | cons q l ih =>
      intro T
      rw [List.foldl_cons, ih]
      unfold bgF
      rw [List.filter_cons]
      cases bgB q x y with
      | false => rfl
      | true => rw [if_pos rfl, if_pos rfl, List.flatMap_cons, addall_app]
  rw [efl2] at d2
  obtain ⟨s1, s2, s3, s4⟩ := d2
  refine ⟨τ3, ?_, ?_, s4⟩
  · refine Eq.trans c1 ?_
    try dsimp only
    rw [h_X7_expandAll_13, e_X2_count 27 (by decide), ci_s, r1.1, cT (nI_le (Nat.le_refl _) (by omega))]
    refine Eq.trans d1 ?_
    try dsimp only
    rw [h_X7_expandAll_63, e_X2_count 27 (by decide), ci_s, s1.1, cT (nI_le (Nat.le_refl _) (by omega))]
  · unfold tlF
    rw [if_neg (by rw [hf0]; decide)]
    exact s2
def tlM (x y : Nat) (G : List PR) (p : PR) : List (Option PR) := if bgB p x y then exL y p G else [some p]
theorem tl_req {x y : Nat} {G : List PR} (hG : Gok G) : Req (addall (G.flatMap (tlM x y G)) ([], false)) (tlF x y (G, false)) := by
  have hmm := rms_mem (bgF x y G) (C := G) (fun q hq => hG.2.1 q (List.mem_filter.mp hq).1) hG
  unfold tlF
  rw [if_neg (show ¬ (false : Bool) = true by decide)]
  refine add_conf (fun o ho p hp => ?_) (tl_ook hG.2.1) Gok.nil (rms_ok _ hG) rfl rfl (fun o => ?_)
  · obtain ⟨q, hq, h⟩ := List.mem_flatMap.mp ho
    unfold tlM at h
    split at h
    · exact exL_ook (hG.2.1 q hq) hG.2.1 o h p hp
    · rw [List.mem_singleton.mp h] at hp
      rw [← Option.some.inj hp]
      exact hG.2.1 q hq
  · constructor
    · rintro (h | ⟨p, hp, _⟩)
      · obtain ⟨q, hq, h⟩ := List.mem_flatMap.mp h
        unfold tlM at h
        split at h
        · rename_i hb
          exact Or.inl (List.mem_flatMap.mpr ⟨q, List.mem_filter.mpr ⟨hq, hb⟩, h⟩)
        · rename_i hb
          exact Or.inr ⟨q, (hmm q).mpr ⟨hq, fun hh => hb (List.mem_filter.mp hh).2⟩, List.mem_singleton.mp h⟩
      · cases hp
    · rintro (h | ⟨p, hp, e⟩)
      · obtain ⟨q, hq, h⟩ := List.mem_flatMap.mp h
        obtain ⟨h1, h2⟩ := List.mem_filter.mp hq
        refine Or.inl (List.mem_flatMap.mpr ⟨q, h1, ?_⟩)
        unfold tlM
        rw [if_pos h2]
        exact h
      · obtain ⟨h1, h2⟩ := (hmm p).mp hp
        refine Or.inl (List.mem_flatMap.mpr ⟨p, h1, ?_⟩)
        unfold tlM
        rw [if_neg (fun hb => h2 (List.mem_filter.mpr ⟨h1, hb⟩))]
        exact List.mem_singleton.mpr e
theorem tlM_ook {x y : Nat} {G : List PR} (hG : Oks G) {q : PR} (hq : okp q) : Ook (tlM x y G q) := by
  intro o ho p hp
  unfold tlM at ho
  split at ho
  · exact exL_ook hq hG o ho p hp
  · rw [List.mem_singleton.mp ho] at hp
    rw [← Option.some.inj hp]
    exact hq
theorem s_X9_tell {σ : si_M} {S : List PR × Bool} (hc : Cp σ S) (hf0 : S.2 = false) (hG : Gok S.1) {x y : Nat} (hx : x < 16) (hy : y < 16) : ∃ τ S', si_sc gP nX9_tell [.ref 29, .int (nI x), .int (nI y)] σ = some (none, τ) ∧ Cp τ S' ∧ Gok S'.1 ∧ Req S' (tlF x y S) ∧ KeepM mF mS σ τ := by
  have hl := hG.1
  obtain ⟨τ1, b1, b2, b3⟩ := s_X9_begin σ
  rw [e_X9_tell, b1, cv_s]
  obtain ⟨τ2, c1, c2⟩ := lp_ex (F := fun i τ => si_sem gP nX9_tell 6 [.ref 29, .int (nI x), .int (nI y), .int (nI i)] [] τ) (G := S.1) (f := fun T q => addall (tlM x y S.1 q) T) (R := fun τ T => Cp τ S ∧ Nx τ T ∧ Gok T.1 ∧ KeepM mF mS σ τ) (fun i τ T hi hR => by
    obtain ⟨r1, r2, r3, r4⟩ := hR
    have hok := hG.2.1.at hi
    have hle := hok.1
    have d1 := getD31 hok 0
    try dsimp only
    rw [h_X9_tell_6, r1.1, cF (nI_ge hi (by omega)), inT (show i < 60 by omega) (by decide), nI_clamp (by omega), r1.2.2.at hi, s_X9_left hok, ci_s, nI_add, nI_add]
    have put : bgB S.1[i] x y = false → ∃ τ', (cond (si_in (nI i) 60) (si_cv (si_sc gP nX9_put [.ref 29, .long (τ.2 44 i)] τ) (fun σ5_64 => si_sem gP nX9_tell 6 [.ref 29, .int (nI x), .int (nI y), .int (nI (i + 1))] [] σ5_64)) none) = si_sem gP nX9_tell 6 [.ref 29, .int (nI x), .int (nI y), .int (nI (i + 1))] [] τ' ∧ Cp τ' S ∧ Nx τ' (addall (tlM x y S.1 S.1[i]) T) ∧ Gok (addall (tlM x y S.1 S.1[i]) T).1 ∧ KeepM mF mS σ τ' := by
      intro hb
      obtain ⟨τ', a1, a2, a3⟩ := s_X9_put r2 r3 hok
      have e : tlM x y S.1 S.1[i] = [some S.1[i]] := by unfold tlM; rw [hb, if_neg (by decide)]
      rw [inT (show i < 60 by omega) (by decide), r1.2.2.at hi, a1, cv_s, e]
      exact ⟨τ', rfl, r1.of a3 (by decide) (by decide) (by decide), a2, cadd_some_ok r3 hok, r4.tr (a3.mono (by decide) (by decide))⟩
    rw [r1.2.2.at hi] at put
    by_cases e1 : S.1[i].1 = x
    · rw [nF (by rw [e1]), inT (show i < 60 by omega) (by decide), r1.2.2.at hi, s_X9_at hok (by decide), ci_s]
      by_cases e2 : S.1[i].2.getD 0 0 = y + 1
      · have hb : bgB S.1[i] x y = true := bgB_iff.mpr ⟨e1, e2⟩
        have hlen : 0 < S.1[i].2.length := by
          rcases Nat.lt_or_ge 0 S.1[i].2.length with h | h
          · exact h
          · rw [getD_out h] at e2; omega
        obtain ⟨τ', a1, a2, a3⟩ := s_X9_putTold hG r1 r2 r3 hok hy hlen
        have e : tlM x y S.1 S.1[i] = exL y S.1[i] S.1 := by unfold tlM; rw [if_pos hb]
        rw [nF (by rw [e2]), inT (show i < 60 by omega) (by decide), r1.2.2.at hi, a1, cv_s, e]
        exact ⟨τ', rfl, r1.of a3 (by decide) (by decide) (by decide), a2, addall_ok _ (exL_ook hok hG.2.1) r3, r4.tr (a3.mono (by decide) (by decide))⟩
      · rw [nT (nI_eqF e2 (by omega) (by omega)), r1.2.2.at hi]
        exact put (by unfold bgB; rw [decide_eq_false e2, Bool.and_false])
    · rw [nT (nI_eqF e1 (by omega) (by omega)), r1.2.2.at hi]
      exact put (by unfold bgB; rw [decide_eq_false e1, Bool.false_and])) τ1 ([], false) ⟨hc.of b3 (by decide) (by decide) (by decide), b2, Gok.nil, b3.mono (by decide) (by decide)⟩
  rw [fold_addall (L := tlM x y S.1) (fun S o => rfl)] at c2
  obtain ⟨r1, r2, r3, r4⟩ := c2
  obtain ⟨τ3, d1, d2, d3⟩ := s_X9_step r3.1 r2 r1
  rw [hf0, Bool.false_or] at d2
  refine ⟨τ3, _, ?_, d2, r3, ?_, r4.tr (d3.mono (by decide) (by decide))⟩
  · refine Eq.trans c1 ?_
    try dsimp only
    rw [h_X9_tell_6, r1.1, cT (nI_le (Nat.le_refl _) (by omega)), d1, cv_s]
  · have := tl_req (x := x) (y := y) hG
    have hS : S = (S.1, false) := by rw [← hf0]
    rw [hS]
    exact this
