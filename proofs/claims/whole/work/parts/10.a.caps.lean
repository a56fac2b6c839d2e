/-! capped sets: what comes out does not depend on the order -/
def addall (l : List (Option PR)) (S : List PR × Bool) : List PR × Bool := l.foldl (fun S o => cadd o S) S
theorem addall_app (l m : List (Option PR)) (S : List PR × Bool) : addall (l ++ m) S = addall m (addall l S) := List.foldl_append ..
theorem addall_cons (o : Option PR) (l : List (Option PR)) (S : List PR × Bool) : addall (o :: l) S = addall l (cadd o S) := rfl
theorem cadd_fl (o : Option PR) {S : List PR × Bool} (h : S.2 = true) : (cadd o S).2 = true := by
  unfold cadd
  split
  · rfl
  · split
    · exact h
    · split
      · exact h
      · rfl
theorem addall_fl : ∀ (l : List (Option PR)) {S : List PR × Bool}, S.2 = true → (addall l S).2 = true := by
  intro l
  induction l with
  | nil => intro S h; exact h
  | cons o l ih => intro S h; exact ih (cadd_fl o h)
def Ook (l : List (Option PR)) : Prop := ∀ o ∈ l, ∀ p, o = some p → okp p
theorem addall_ok : ∀ (l : List (Option PR)) {S : List PR × Bool}, Ook l → Gok S.1 → Gok (addall l S).1 := by
  intro l
  induction l with
  | nil => intro S _ h; exact h
  | cons o l ih =>
    intro S hl h
    exact ih (fun o' ho' => hl o' (List.mem_cons_of_mem _ ho')) (Gok.add (hl o (List.mem_cons_self ..)) h)
theorem cadd_f {o : Option PR} {S : List PR × Bool} (h : (cadd o S).2 = false) : S.2 = false ∧ ∃ p, o = some p ∧ ∀ x, x ∈ (cadd o S).1 ↔ x = p ∨ x ∈ S.1 := by
  cases o with
  | none => cases h
  | some p =>
    simp only [cadd] at h ⊢
    split at h
    · rename_i hp
      refine ⟨h, p, rfl, fun x => ?_⟩
      rw [if_pos hp]
      exact ⟨fun hx => Or.inr hx, fun hx => by rcases hx with e | e; rw [e]; exact hp; exact e⟩
    · rename_i hp
      split at h
      · rename_i hl
        refine ⟨h, p, rfl, fun x => ?_⟩
        rw [if_neg hp, if_pos hl]
        exact mem_ins
      · cases h
theorem addall_f : ∀ (l : List (Option PR)) {S : List PR × Bool}, (addall l S).2 = false → S.2 = false ∧ (∀ o ∈ l, o ≠ none) ∧ ∀ x, x ∈ (addall l S).1 ↔ x ∈ S.1 ∨ some x ∈ l := by
  intro l
  induction l with
  | nil => intro S h; exact ⟨h, (fun o ho => by cases ho), fun x => by simp [addall]⟩
  | cons o l ih =>
    intro S h
    rw [addall_cons] at h ⊢
    obtain ⟨h1, h2, h3⟩ := ih h
    obtain ⟨g1, p, g2, g3⟩ := cadd_f h1
    refine ⟨g1, fun o' ho' => ?_, fun x => ?_⟩
    · rcases List.mem_cons.mp ho' with e | e
      · rw [e, g2]; simp
      · exact h2 o' e
    · rw [h3 x, g3 x, g2, List.mem_cons, Option.some.injEq]
      constructor
      · rintro ((e | e) | e)
        · exact Or.inr (Or.inl e)
        · exact Or.inl e
        · exact Or.inr (Or.inr e)
      · rintro (e | e | e)
        · exact Or.inl (Or.inr e)
        · exact Or.inl (Or.inl e)
        · exact Or.inr e
theorem nodup_le : ∀ {l m : List PR}, l.Nodup → (∀ x ∈ l, x ∈ m) → l.length ≤ m.length := by
  intro l
  induction l with
  | nil => intro m _ _; simp
  | cons a l ih =>
    intro m hn hs
    have hn' := List.nodup_cons.mp hn
    have ha := hs a (List.mem_cons_self ..)
    have h1 := ih (m := m.erase a) hn'.2 (fun x hx => (List.mem_erase_of_ne (fun (e : x = a) => hn'.1 (by rw [← e]; exact hx))).mpr (hs x (List.mem_cons_of_mem _ hx)))
    have h2 := List.length_erase_of_mem ha
    have h3 : 0 < m.length := List.length_pos_of_mem ha
    rw [List.length_cons]
    omega
theorem Srt.nodup {G : List PR} (h : Srt G) : G.Nodup := by
  unfold Srt at h
  exact h.imp (fun hlt e => by rw [e] at hlt; exact Nat.lt_irrefl _ hlt)
theorem addall_T {T : List PR} (hT : T.length ≤ 60) : ∀ (l : List (Option PR)) {S : List PR × Bool}, Ook l → Gok S.1 → S.2 = false → (∀ x ∈ S.1, x ∈ T) → (∀ o ∈ l, ∃ p, p ∈ T ∧ o = some p) → (addall l S).2 = false := by
  intro l
  induction l with
  | nil => intro S _ _ h _ _; exact h
  | cons o l ih =>
    intro S hl hS hf hs hm
    obtain ⟨p, hp, e⟩ := hm o (List.mem_cons_self ..)
    have hok := hl o (List.mem_cons_self ..)
    have hflag : (cadd o S).2 = false := by
      rw [e]
      simp only [cadd]
      split
      · exact hf
      · rename_i hn
        split
        · exact hf
        · rename_i hlen
          have := nodup_le (l := p :: S.1) (m := T) (List.nodup_cons.mpr ⟨hn, hS.2.2.nodup⟩) (fun x hx => by
            rcases List.mem_cons.mp hx with e' | e'
            · rw [e']; exact hp
            · exact hs x e')
          rw [List.length_cons] at this
          omega
    obtain ⟨_, p', e1, e2⟩ := cadd_f hflag
    rw [addall_cons]
    refine ih (fun o' ho' => hl o' (List.mem_cons_of_mem _ ho')) (Gok.add hok hS) hflag (fun x hx => ?_) (fun o' ho' => hm o' (List.mem_cons_of_mem _ ho'))
    rcases (e2 x).mp hx with h | h
    · rw [h]; rw [e] at e1; rw [← Option.some.inj e1]; exact hp
    · exact hs x h
theorem Gok_ext : ∀ {L M : List PR}, Oks L → Oks M → Srt L → Srt M → (∀ x, x ∈ L ↔ x ∈ M) → L = M := by
  intro L
  induction L with
  | nil =>
    intro M _ _ _ _ h
    cases M with
    | nil => rfl
    | cons b M => exact absurd ((h b).mpr (List.mem_cons_self ..)) (by simp)
  | cons a L ih =>
    intro M hL hM sL sM h
    cases M with
    | nil => exact absurd ((h a).mp (List.mem_cons_self ..)) (by simp)
    | cons b M =>
      have sL' := List.pairwise_cons.mp sL
      have sM' := List.pairwise_cons.mp sM
      have ab : a = b := by
        rcases List.mem_cons.mp ((h a).mp (List.mem_cons_self ..)) with e | e
        · exact e
        · rcases List.mem_cons.mp ((h b).mpr (List.mem_cons_self ..)) with e' | e'
          · exact e'.symm
          · have h1 := sM'.1 a e
            have h2 := sL'.1 b e'
            omega
      subst ab
      congr 1
      refine ih (fun q hq => hL q (List.mem_cons_of_mem _ hq)) (fun q hq => hM q (List.mem_cons_of_mem _ hq)) sL'.2 sM'.2 (fun x => ?_)
      constructor
      · intro hx
        rcases List.mem_cons.mp ((h x).mp (List.mem_cons_of_mem _ hx)) with e | e
        · have := sL'.1 x hx
          rw [e] at this
          exact absurd this (Nat.lt_irrefl _)
        · exact e
      · intro hx
        rcases List.mem_cons.mp ((h x).mpr (List.mem_cons_of_mem _ hx)) with e | e
        · have := sM'.1 x hx
          rw [e] at this
          exact absurd this (Nat.lt_irrefl _)
        · exact e
/-- the same, as far as it counts: both too large, or the same row -/
def Req (S T : List PR × Bool) : Prop := S.2 = T.2 ∧ (S.2 = false → S.1 = T.1)
theorem Req.rf (S : List PR × Bool) : Req S S := ⟨rfl, fun _ => rfl⟩
theorem Req.sy {S T : List PR × Bool} (h : Req S T) : Req T S := ⟨h.1.symm, fun hf => (h.2 (h.1.trans hf)).symm⟩
theorem Req.tr {S T U : List PR × Bool} (h : Req S T) (h' : Req T U) : Req S U := ⟨h.1.trans h'.1, fun hf => (h.2 hf).trans (h'.2 (h.1.symm.trans hf))⟩
theorem Req.of_true {S T : List PR × Bool} (h1 : S.2 = true) (h2 : T.2 = true) : Req S T := ⟨h1.trans h2.symm, fun h => by rw [h1] at h; cases h⟩
theorem add_half {l m : List (Option PR)} {S T : List PR × Bool} (hl : Ook l) (hm : Ook m) (hS : Gok S.1) (hT : Gok T.1) (hf : S.2 = false) (h : ∀ o, (o ∈ l ∨ ∃ p, p ∈ S.1 ∧ o = some p) → (o ∈ m ∨ ∃ p, p ∈ T.1 ∧ o = some p)) (hF : (addall m T).2 = false) : (addall l S).2 = false := by
  obtain ⟨g1, g2, g3⟩ := addall_f m hF
  have hG := addall_ok m hm hT
  refine addall_T hG.1 l hl hS hf (fun x hx => ?_) (fun o ho => ?_)
  · rcases h (some x) (Or.inr ⟨x, hx, rfl⟩) with e | ⟨p, hp, e⟩
    · exact (g3 x).mpr (Or.inr e)
    · rw [Option.some.inj e]; exact (g3 p).mpr (Or.inl hp)
  · rcases h o (Or.inl ho) with e | ⟨p, hp, e⟩
    · cases o with
      | none => exact absurd rfl (g2 none e)
      | some p => exact ⟨p, (g3 p).mpr (Or.inr e), rfl⟩
    · exact ⟨p, (g3 p).mpr (Or.inl hp), e⟩
theorem add_conf {l m : List (Option PR)} {S T : List PR × Bool} (hl : Ook l) (hm : Ook m) (hS : Gok S.1) (hT : Gok T.1) (hf : S.2 = false) (hf' : T.2 = false) (h : ∀ o, (o ∈ l ∨ ∃ p, p ∈ S.1 ∧ o = some p) ↔ (o ∈ m ∨ ∃ p, p ∈ T.1 ∧ o = some p)) : Req (addall l S) (addall m T) := by
  have h1 := add_half hl hm hS hT hf (fun o => (h o).mp)
  have h2 := add_half hm hl hT hS hf' (fun o => (h o).mpr)
  refine ⟨?_, fun hF => ?_⟩
  · cases e1 : (addall l S).2 with
    | false => exact (h2 e1).symm
    | true =>
      cases e2 : (addall m T).2 with
      | true => rfl
      | false => rw [h1 e2] at e1; cases e1
  · have hF' := h2 hF
    obtain ⟨_, g2, g3⟩ := addall_f l hF
    obtain ⟨_, k2, k3⟩ := addall_f m hF'
    have o1 := addall_ok l hl hS
    have o2 := addall_ok m hm hT
    refine Gok_ext o1.2.1 o2.2.1 o1.2.2 o2.2.2 (fun x => ?_)
    rw [g3 x, k3 x]
    have := h (some x)
    constructor
    · intro hx
      rcases this.mp (by rcases hx with e | e; exact Or.inr ⟨x, e, rfl⟩; exact Or.inl e) with e | ⟨p, hp, e⟩
      · exact Or.inr e
      · rw [Option.some.inj e]; exact Or.inl hp
    · intro hx
      rcases this.mpr (by rcases hx with e | e; exact Or.inr ⟨x, e, rfl⟩; exact Or.inl e) with e | ⟨p, hp, e⟩
      · exact Or.inr e
      · rw [Option.some.inj e]; exact Or.inl hp
/-- a sorted row, put in one by one, is itself -/
theorem add_self {L : List PR} (h : Gok L) : addall (L.map some) ([], false) = (L, false) := by
  have ho : Ook (L.map some) := fun o ho p e => by
    obtain ⟨q, hq, e'⟩ := List.mem_map.mp ho
    rw [e] at e'
    rw [← Option.some.inj e']
    exact h.2.1 q hq
  have hF : (addall (L.map some) ([], false)).2 = false := addall_T h.1 _ ho Gok.nil rfl (fun x hx => by cases hx) (fun o ho => by
    obtain ⟨q, hq, e⟩ := List.mem_map.mp ho
    exact ⟨q, hq, e.symm⟩)
  have hG := addall_ok (S := ([], false)) _ ho Gok.nil
  refine Prod.ext (Gok_ext hG.2.1 h.2.1 hG.2.2 h.2.2 (fun x => ?_)) hF
  rw [(addall_f _ hF).2.2 x]
  simp
theorem Gok.filter {G : List PR} (h : Gok G) (p : PR → Bool) : Gok (G.filter p) := ⟨Nat.le_trans (List.length_filter_le ..) h.1, fun q hq => h.2.1 q (List.mem_filter.mp hq).1, h.2.2.filter p⟩
