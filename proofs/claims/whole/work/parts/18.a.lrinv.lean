/-! toGreibach: what removing left recursion leaves -/
/-- reached by one or more units -/
def Ur (G : List PR) (x y : Nat) : Prop := bt (clw (uns G) x) y = true
theorem Ur_in {G : List PR} (hG : Oks G) {x y : Nat} (hx : x < 16) (hy : y < 16) (h : (x, [y + 1]) ∈ G) : Ur G x y := by
  refine clw_in _ hx ?_
  have := uns_bt hG h (by simp [unB]; omega)
  exact this
theorem Ur_tr {G : List PR} {x u y : Nat} (hx : x < 16) (hu : u < 16) (h1 : Ur G x u) (h2 : Ur G u y) : Ur G x y := clw_tr _ hx hu h1 h2
theorem Ur_no {G : List PR} (h : cyB G = false) {x : Nat} (hx : x < 16) : ¬ Ur G x x := by
  intro hu
  have h0 : lps (clw (uns G)) = nI 0 := by
    unfold cyB at h
    simpa using h
  have := lps_bt (clw (uns G)) hx
  rw [h0, show bt (nI 0) x = false from b_0 x] at this
  rw [hu] at this
  cases this
theorem bg_cons {q : PR} {x y : Nat} : bgB q x y = true ↔ ∃ v, q = (x, (y + 1) :: v) := by
  rw [bgB_iff]
  constructor
  · rintro ⟨h1, h2⟩
    match hw : q.2 with
    | [] => rw [hw] at h2; simp at h2
    | a :: v =>
      rw [hw] at h2
      have : a = y + 1 := by simpa using h2
      exact ⟨v, Prod.ext h1 (by rw [hw, this])⟩
  · rintro ⟨v, rfl⟩
    exact ⟨rfl, rfl⟩
theorem rowP_eq {x : Nat} {w : List Nat} {p : PR} (h : rowP x w = some p) : p = (x, w) := by
  unfold rowP at h
  split at h
  · exact (Option.some.inj h).symm
  · cases h
theorem rowP_nn {x : Nat} {w : List Nat} (h : rowP x w ≠ none) : rowP x w = some (x, w) := by
  unfold rowP at h ⊢
  split
  · rfl
  · rename_i hh; rw [if_neg hh] at h; exact absurd rfl h
theorem ext_eq {q p : PR} {a : Nat} (h : ext q a = some p) : p = (q.1, q.2 ++ [a]) := by
  unfold ext at h
  split at h
  · exact (Option.some.inj h).symm
  · cases h
theorem ext_nn {q : PR} {a : Nat} (h : ext q a ≠ none) : ext q a = some (q.1, q.2 ++ [a]) := by
  unfold ext at h ⊢
  split
  · rfl
  · rename_i hh; rw [if_neg hh] at h; exact absurd rfl h
theorem exL_mem {y : Nat} {q : PR} {G : List PR} {o : Option PR} : o ∈ exL y q G ↔ ∃ u, (y, u) ∈ G ∧ o = rowP q.1 (u ++ q.2.drop 1) := by
  unfold exL
  rw [List.mem_map]
  constructor
  · rintro ⟨r, hr, e⟩
    obtain ⟨h1, h2⟩ := List.mem_filter.mp hr
    have h2 : r.1 = y := of_decide_eq_true h2
    exact ⟨r.2, by rw [← h2]; exact h1, e.symm⟩
  · rintro ⟨u, hu, e⟩
    exact ⟨(y, u), List.mem_filter.mpr ⟨hu, decide_eq_true rfl⟩, e.symm⟩
theorem tlF_mem {x y : Nat} {G : List PR} (hG : Gok G) (hf : (tlF x y (G, false)).2 = false) (p : PR) : p ∈ (tlF x y (G, false)).1 ↔ (p ∈ G ∧ bgB p x y = false) ∨ ∃ v u, (x, (y + 1) :: v) ∈ G ∧ (y, u) ∈ G ∧ p = (x, u ++ v) := by
  unfold tlF at hf ⊢
  rw [if_neg (show ¬ (false : Bool) = true by decide)] at hf ⊢
  obtain ⟨_, h2, h3⟩ := addall_f _ hf
  rw [h3, rms_mem (bgF x y G) (fun q hq => hG.2.1 q (List.mem_filter.mp hq).1) hG]
  constructor
  · rintro (⟨h, h'⟩ | h)
    · refine Or.inl ⟨h, ?_⟩
      cases hb : bgB p x y with
      | false => rfl
      | true => exact absurd (List.mem_filter.mpr ⟨h, hb⟩) h'
    · obtain ⟨q, hq, ho⟩ := List.mem_flatMap.mp h
      obtain ⟨hq1, hq2⟩ := List.mem_filter.mp hq
      obtain ⟨v, rfl⟩ := bg_cons.mp hq2
      obtain ⟨u, hu, e⟩ := exL_mem.mp ho
      exact Or.inr ⟨v, u, hq1, hu, rowP_eq e.symm⟩
  · rintro (⟨h, h'⟩ | ⟨v, u, h1, h4, rfl⟩)
    · refine Or.inl ⟨h, fun hh => ?_⟩
      have := (List.mem_filter.mp hh).2
      rw [h'] at this
      cases this
    · right
      have hm : rowP x (u ++ v) ∈ (bgF x y G).flatMap (fun p => exL y p G) := List.mem_flatMap.mpr ⟨(x, (y + 1) :: v), List.mem_filter.mpr ⟨h1, bg_cons.mpr ⟨v, rfl⟩⟩, exL_mem.mpr ⟨u, h4, rfl⟩⟩
      rw [rowP_nn (h2 _ hm)] at hm
      exact hm
theorem tuF_mem {x : Nat} (hx : x < 16) {G : List PR} (hG : Gok G) (hf : (tuF x (G, false)).2 = false) :
    ((∀ v, (x, (x + 1) :: v) ∈ G → v = []) ∧ ∀ p, p ∈ (tuF x (G, false)).1 ↔ p ∈ G ∧ p ≠ (x, [x + 1])) ∨
    ∃ z, fre G = some z ∧ (∃ v, v ≠ [] ∧ (x, (x + 1) :: v) ∈ G) ∧ ∀ p, p ∈ (tuF x (G, false)).1 ↔ (p ∈ G ∧ p.1 ≠ x) ∨ (∃ w, (x, w) ∈ G ∧ (∀ v, w ≠ (x + 1) :: v) ∧ (p = (x, w) ∨ p = (x, w ++ [z + 1]))) ∨ ∃ v, v ≠ [] ∧ (x, (x + 1) :: v) ∈ G ∧ (p = (z, v) ∨ p = (z, v ++ [z + 1])) := by
  have hr1 : ∀ q, q ∈ r1G x G ↔ q ∈ G ∧ q ≠ (x, [x + 1]) := rmv_mem (okp_self hx) hG
  unfold tuF at hf ⊢
  rw [if_neg (show ¬ (false : Bool) = true by decide)] at hf ⊢
  cases hrc : rcB x G with
  | false =>
    left
    have hrc' : rcB x (G, false).1 = false := hrc
    rw [if_neg (by decide)]
    refine ⟨fun v hv => ?_, fun p => hr1 p⟩
    cases v with
    | nil => rfl
    | cons a v =>
      exfalso
      have : rcB x G = true := List.any_eq_true.mpr ⟨(x, (x + 1) :: a :: v), (hr1 _).mpr ⟨hv, by simp⟩, bg_cons.mpr ⟨_, rfl⟩⟩
      rw [hrc] at this
      cases this
  | true =>
    right
    have hrc' : rcB x (G, false).1 = true := hrc
    rw [if_pos hrc'] at hf
    rw [if_pos rfl]
    have hfr : fre (r1G x (G, false).1) = fre G := fre_r1 hx hG hrc
    rw [hfr] at hf ⊢
    cases hz : fre G with
    | none => rw [hz] at hf; cases hf
    | some z =>
      rw [hz] at hf
      obtain ⟨_, h2, h3⟩ := addall_f _ hf
      obtain ⟨q, hq, hb⟩ := List.any_eq_true.mp hrc
      obtain ⟨v0, rfl⟩ := bg_cons.mp hb
      have hq' := (hr1 _).mp hq
      refine ⟨z, rfl, ⟨v0, fun e => hq'.2 (by rw [e]), hq'.1⟩, fun p => ?_⟩
      show p ∈ (addall ((r1G x G).flatMap (tuL x z)) ([], false)).1 ↔ _
      rw [h3 p]
      constructor
      · rintro (h | h)
        · cases h
        · obtain ⟨q, hq, ho⟩ := List.mem_flatMap.mp h
          obtain ⟨q1, q2⟩ := (hr1 q).mp hq
          unfold tuL at ho
          split at ho
          · rename_i hb
            obtain ⟨v, rfl⟩ := bg_cons.mp hb
            have hv : v ≠ [] := fun e => q2 (by rw [e])
            refine Or.inr (Or.inr ⟨v, hv, q1, ?_⟩)
            rcases List.mem_cons.mp ho with e | e
            · exact Or.inr (ext_eq e.symm)
            · exact Or.inl (Option.some.inj (List.mem_singleton.mp e))
          · rename_i hb
            split at ho
            · rename_i hx2
              have hq3 : q = (x, q.2) := Prod.ext hx2 rfl
              refine Or.inr (Or.inl ⟨q.2, hq3 ▸ q1, fun v e => hb (bg_cons.mpr ⟨v, Prod.ext hx2 e⟩), ?_⟩)
              rcases List.mem_cons.mp ho with e | e
              · right
                have := ext_eq e.symm
                rw [hx2] at this
                exact this
              · left
                rw [← hq3]
                exact Option.some.inj (List.mem_singleton.mp e)
            · rename_i hx2
              have := Option.some.inj (List.mem_singleton.mp ho)
              rw [this]
              exact Or.inl ⟨q1, hx2⟩
      · intro hp
        right
        have use : ∀ (q : PR) (o : Option PR), q ∈ G → q ≠ (x, [x + 1]) → o ∈ tuL x z q → o ∈ (r1G x G).flatMap (tuL x z) := fun q o h1 h4 h5 => List.mem_flatMap.mpr ⟨q, (hr1 q).mpr ⟨h1, h4⟩, h5⟩
        rcases hp with ⟨h1, h4⟩ | ⟨w, h1, h4, h5⟩ | ⟨v, h1, h4, h5⟩
        · refine use p _ h1 (fun e => h4 (by rw [e])) ?_
          unfold tuL
          rw [if_neg (fun hb => h4 (bgB_iff.mp hb).1), if_neg h4]
          exact List.mem_singleton.mpr rfl
        · have hb : ¬ bgB (x, w) x x = true := fun hb => by
            obtain ⟨v, e⟩ := bg_cons.mp hb
            exact h4 v (congrArg Prod.snd e)
          have hne : (x, w) ≠ (x, [x + 1]) := fun e => h4 [] (congrArg Prod.snd e)
          have hL : tuL x z (x, w) = [ext (x, w) (z + 1), some (x, w)] := by
            unfold tuL
            rw [if_neg hb, if_pos rfl]
          rcases h5 with e | e
          · refine use (x, w) _ h1 hne ?_
            rw [hL, e]
            simp
          · have hm := use (x, w) (ext (x, w) (z + 1)) h1 hne (by rw [hL]; simp)
            rw [ext_nn (h2 _ hm)] at hm
            rw [e]
            exact hm
        · have hne : (x, (x + 1) :: v) ≠ (x, [x + 1]) := fun e => h1 (by simpa using congrArg Prod.snd e)
          have hL : tuL x z (x, (x + 1) :: v) = [ext (z, v) (z + 1), some (z, v)] := by
            unfold tuL
            rw [if_pos (bg_cons.mpr ⟨v, rfl⟩)]
            rfl
          rcases h5 with e | e
          · refine use (x, (x + 1) :: v) _ h4 hne ?_
            rw [hL, e]
            simp
          · have hm := use (x, (x + 1) :: v) (ext (z, v) (z + 1)) h4 hne (by rw [hL]; simp)
            rw [ext_nn (h2 _ hm)] at hm
            rw [e]
            exact hm
