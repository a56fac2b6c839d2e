/-! toGreibach: how many steps a left side made by turning takes -/
section ONEW
variable {Zs : List Nat} {X : Nat} {N : Nat → WL} {a n : Nat} {S : WL}
def c1 (Zs : List Nat) (N : Nat → WL) (S : WL) : Nat := mxs (fun y => if (r1 Zs N S y && !r2 Zs N S y && !r3 Zs N S y) = true then cn N y else 0) (List.range 16)
def c2 (Zs : List Nat) (N : Nat → WL) (S : WL) : Nat := mxs (fun y => if (r2 Zs N S y && !r3 Zs N S y) = true then cn N y else 0) (List.range 16)
theorem c1_ge {y : Nat} (hy : y < 16) (h1 : r1 Zs N S y = true) (h2 : r2 Zs N S y = false) (h3 : r3 Zs N S y = false) : cn N y ≤ c1 Zs N S := by
  have := mxs_ge (fun y => if (r1 Zs N S y && !r2 Zs N S y && !r3 Zs N S y) = true then cn N y else 0) (List.mem_range.mpr hy)
  simp only [h1, h2, h3] at this
  exact this
theorem c2_ge {y : Nat} (hy : y < 16) (h2 : r2 Zs N S y = true) (h3 : r3 Zs N S y = false) : cn N y ≤ c2 Zs N S := by
  have := mxs_ge (fun y => if (r2 Zs N S y && !r3 Zs N S y) = true then cn N y else 0) (List.mem_range.mpr hy)
  simp only [h2, h3] at this
  exact this
theorem c1_at : c1 Zs N S = 0 ∨ ∃ y, r1 Zs N S y = true ∧ r2 Zs N S y = false ∧ c1 Zs N S = cn N y := by
  rcases mxs_at (fun y => if (r1 Zs N S y && !r2 Zs N S y && !r3 Zs N S y) = true then cn N y else 0) (List.range 16) with e | ⟨y, _, e⟩
  · exact Or.inl e
  · by_cases hc : (r1 Zs N S y && !r2 Zs N S y && !r3 Zs N S y) = true
    · right
      have e' : cn N y = c1 Zs N S := by
        have := e
        simp only [hc, if_true] at this
        exact this
      rw [Bool.and_eq_true, Bool.and_eq_true] at hc
      exact ⟨y, hc.1.1, by simpa using hc.1.2, e'.symm⟩
    · left
      have : 0 = c1 Zs N S := by
        have := e
        simp only [hc] at this
        exact this
      exact this.symm
theorem c2_at : c2 Zs N S = 0 ∨ ∃ y, r2 Zs N S y = true ∧ c2 Zs N S = cn N y := by
  rcases mxs_at (fun y => if (r2 Zs N S y && !r3 Zs N S y) = true then cn N y else 0) (List.range 16) with e | ⟨y, _, e⟩
  · exact Or.inl e
  · by_cases hc : (r2 Zs N S y && !r3 Zs N S y) = true
    · right
      have e' : cn N y = c2 Zs N S := by
        have := e
        simp only [hc, if_true] at this
        exact this
      rw [Bool.and_eq_true] at hc
      exact ⟨y, hc.1, e'.symm⟩
    · left
      have : 0 = c2 Zs N S := by
        have := e
        simp only [hc] at this
        exact this
      exact this.symm
def W3 (Zs : List Nat) (N : Nat → WL) : Nat := 25 + 2 * eL Zs N
def W2 (Zs : List Nat) (N : Nat → WL) (S : WL) (q : Nat) : Nat := 1 + q + c2 Zs N S * W3 Zs N
def W1 (Zs : List Nat) (N : Nat → WL) (S : WL) (q : Nat) : Nat := 1 + q + c1 Zs N S * W2 Zs N S q
/-- the weights of first letters -/
def dZ (Zs : List Nat) (N : Nat → WL) (S : WL) (q : Nat) (y : Nat) : Nat := if mL Zs N y then 0 else if !nf N y then 1 else if r3 Zs N S y then W3 Zs N else if r2 Zs N S y then W2 Zs N S q else if r1 Zs N S y then W1 Zs N S q else 0
theorem le_mul_of_pos {b c : Nat} (h : 1 ≤ c) : b ≤ c * b := by
  have := Nat.mul_le_mul_right b h
  rw [Nat.one_mul] at this
  exact this
theorem nf_iff {y : Nat} : nf N y = true ↔ ∃ u, u ∈ N y ∧ ntB u = true := List.any_eq_true
theorem nf_mL {y : Nat} (hy : y < 16) (hn : nf N y = true) (hZ : y ∉ Zs) : mL Zs N y = true := mL_iff.mpr ⟨hy, hZ, nf_iff.mp hn⟩
theorem mL_nZ {y : Nat} (h : mL Zs N y = true) : y ∉ Zs := (mL_iff.mp h).2.1
theorem letters (hX : XH Zs X N) : ((List.range 16).filter (fun y => decide (y ∉ Zs))).length + Zs.length ≤ 16 := by
  have hnd : ((List.range 16).filter (fun y => decide (y ∉ Zs)) ++ Zs).Nodup := by
    refine List.nodup_append.mpr ⟨List.nodup_range.filter _, hX.2.2.1, fun y hy z hz e => ?_⟩
    have := of_decide_eq_true (List.mem_filter.mp hy).2
    exact this (e ▸ hz)
  have hs := sU_sub (fun _ : Nat => 1) hnd (m := List.range 16) (fun y hy => by
    rcases List.mem_append.mp hy with h | h
    · exact (List.mem_filter.mp h).1
    · exact List.mem_range.mpr (hX.2.2.2.1 y h))
  have hl : ∀ l : List Nat, sU (fun _ : Nat => 1) l = l.length := by
    intro l
    induction l with
    | nil => rfl
    | cons b l ih => simp only [sU, ih, List.length_cons]; omega
  rw [hl, hl, List.length_append, List.length_range] at hs
  exact hs
theorem two_filters (l : List Nat) : (l.filter (mL Zs N)).length + (l.filter (fun y => !mL Zs N y && decide (y ∉ Zs))).length ≤ (l.filter (fun y => decide (y ∉ Zs))).length := by
  induction l with
  | nil => exact Nat.le_refl _
  | cons y l ih =>
    rw [List.filter_cons, List.filter_cons, List.filter_cons]
    cases hm : mL Zs N y with
    | true =>
      have := mL_nZ hm
      rw [if_pos rfl, if_neg (by simp), if_pos (decide_eq_true this), List.length_cons, List.length_cons]
      omega
    | false =>
      by_cases hz : y ∉ Zs
      · rw [if_neg (by decide), if_pos (by simpa using hz), if_pos (decide_eq_true hz), List.length_cons, List.length_cons]
        omega
      · rw [if_neg (by decide), if_neg (by simpa using hz), if_neg (by simpa using hz)]
        exact ih
theorem one_z (hX : XH Zs X N) (hnd : ∀ y, (N y).Nodup) (hS : SH Zs X S) (hr : RX N a n S) (hl : S.length ≤ a) (h8 : ∀ w ∈ S, w.length ≤ 8) : n ≤ (S.filter ntB).length * W1 Zs N S (a * LL Zs N) + a * LL Zs N := by
  have hh := hX
  obtain ⟨x1, x2, x3, x4, x5, x6, x7, x8⟩ := hX
  generalize hq : a * LL Zs N = q
  have XZ := hS.1
  -- the weights in their order
  have w32 : ∀ {y}, r3 Zs N S y = true → W3 Zs N ≤ W2 Zs N S q := by
    intro y h
    obtain ⟨g1, _, t, g3, g4, v, g5⟩ := r3_iff.mp h
    have h3 : r3 Zs N S t = false := by
      cases h3 : r3 Zs N S t with
      | false => rfl
      | true => exact absurd g1 (fun g => p4 hh hS hr h8 h3 g5 g)
    have h1 : 1 ≤ c2 Zs N S := Nat.le_trans (cn_pos g5 (by rw [nt_cons]; exact decide_eq_true (x4 y g1))) (c2_ge g3 g4 h3)
    have := le_mul_of_pos (b := W3 Zs N) h1
    unfold W2
    omega
  have w21 : ∀ {y}, r2 Zs N S y = true → W2 Zs N S q ≤ W1 Zs N S q := by
    intro y h
    obtain ⟨g1, _, t, g3, g4, v, g5⟩ := r2_iff.mp h
    obtain ⟨t', f1, f2, f3, f4, f5⟩ := c1pos hh hS hr h8 Zs.length t y v (by omega) g4 g5 g1
    have h1 : 1 ≤ c1 Zs N S := Nat.le_trans f5 (c1_ge f1 f2 f3 f4)
    have := le_mul_of_pos (b := W2 Zs N S q) h1
    unfold W1
    omega
  have w31 : ∀ {y}, r3 Zs N S y = true → W3 Zs N ≤ W1 Zs N S q := by
    intro y h
    obtain ⟨_, _, t, _, g4, _, _⟩ := r3_iff.mp h
    exact Nat.le_trans (w32 h) (w21 g4)
  have d_mL : ∀ {y}, mL Zs N y = true → dZ Zs N S q y = 0 := fun h => by unfold dZ; rw [if_pos h]
  have d_fl : ∀ {y}, nf N y = false → dZ Zs N S q y ≤ 1 := fun {y} h => by
    unfold dZ
    split
    · decide
    · rw [h, if_pos (by decide)]; exact Nat.le_refl _
  have d_3 : ∀ {y}, r3 Zs N S y = true → dZ Zs N S q y = W3 Zs N := fun {y} h => by
    obtain ⟨g1, g2, _⟩ := r3_iff.mp h
    unfold dZ
    rw [if_neg (fun hm => mL_nZ hm g1), g2, if_neg (by decide), if_pos h]
  have d_2 : ∀ {y}, r2 Zs N S y = true → r3 Zs N S y = false → dZ Zs N S q y = W2 Zs N S q := fun {y} h h3 => by
    obtain ⟨g1, g2, _⟩ := r2_iff.mp h
    unfold dZ
    rw [if_neg (fun hm => mL_nZ hm g1), g2, if_neg (by decide), h3, if_neg (by decide), if_pos h]
  have d_1 : ∀ {y}, r1 Zs N S y = true → r2 Zs N S y = false → r3 Zs N S y = false → dZ Zs N S q y = W1 Zs N S q := fun {y} h h2 h3 => by
    obtain ⟨g1, g2, _⟩ := r1_iff.mp h
    unfold dZ
    rw [if_neg (fun hm => mL_nZ hm g1), g2, if_neg (by decide), h3, if_neg (by decide), h2, if_neg (by decide), if_pos h]
  have d_nZ : ∀ {y}, y < 16 → y ∉ Zs → dZ Zs N S q y ≤ d0 Zs N y := by
    intro y hy hz
    unfold d0
    cases hm : mL Zs N y with
    | true => rw [d_mL hm]; exact Nat.zero_le _
    | false =>
      rw [if_neg (by decide)]
      apply d_fl
      cases hn : nf N y with
      | false => rfl
      | true => rw [nf_mL hy hn hz] at hm; cases hm
  have d_nZ1 : ∀ {y}, y < 16 → y ∉ Zs → dZ Zs N S q y ≤ 1 := fun hy hz => Nat.le_trans (d_nZ hy hz) (by unfold d0; split <;> decide)
  have W3p : 1 ≤ W3 Zs N := by unfold W3; omega
  have W2p : 1 ≤ W2 Zs N S q := by unfold W2; omega
  have W1p : 1 ≤ W1 Zs N S q := by unfold W1; omega
  have zX : ∀ y, y ∈ old Zs X → y ≠ X := fun y h e => by
    have := old_len x3 h
    rw [e] at this
    omega
  have hup := mL_up hh
  have main := RX_C (mB := mL Zs N) (d := dZ Zs N S q) (γ := gL Zs N) (κ := fun y => if r3 Zs N S y then 2 * LL Zs N else q) (Fr := fun y => y ≠ X ∧ (y ∈ Zs → nf N y = true → r1 Zs N S y = true ∨ r2 Zs N S y = true ∨ r3 Zs N S y = true)) (a := a) hup x1 mL_16 (fun y hy u hu y' v' e hy' => ?_) (fun y hy hy16 => ?_) n S q hr hl (fun y v hv hy => ?_) (by rw [← hq]; exact Cov_A hup x1 mL_16 hr hl (fun w hw => hw))
  · -- the sum at the start
    have h9 : sU (dF (dZ Zs N S q)) S ≤ (S.filter ntB).length * W1 Zs N S q := sU_filt S (fun w hw hb => by
      obtain ⟨y, v, hy, rfl⟩ := nt_ex hb
      rw [dF_cons _ hy]
      by_cases hz : y ∈ Zs
      · cases hn : nf N y with
        | false => exact Nat.le_trans (d_fl hn) W1p
        | true =>
          have h1 : r1 Zs N S y = true := r1_iff.mpr ⟨hz, hn, v, hw⟩
          cases h3 : r3 Zs N S y with
          | true => rw [d_3 h3]; exact w31 h3
          | false =>
            cases h2 : r2 Zs N S y with
            | true => rw [d_2 h2 h3]; exact w21 h2
            | false => rw [d_1 h1 h2 h3]; exact Nat.le_refl _
      · exact Nat.le_trans (d_nZ1 hy hz) W1p)
    omega
  · -- first letters go on to such
    rw [e] at hu
    by_cases hz : y ∈ Zs
    · have hn : nf N y = true := nf_iff.mpr ⟨_, hu, by rw [nt_cons]; exact decide_eq_true hy'⟩
      by_cases hz' : y' ∈ Zs
      · obtain ⟨g1, _⟩ := x6 y y' v' hz hu hz'
        have hyo : y ∈ old Zs X := by
          rcases hy.2 hz hn with h | h | h
          · exact r1_old hS h
          · exact (r2_old hh hS h).1
          · exact absurd hz' (fun g => p4 hh hS hr h8 h hu g)
        refine ⟨zX y' (old_tr x3 hyo g1), fun _ hn' => ?_⟩
        rcases hy.2 hz hn with h | h | h
        · exact Or.inr (Or.inl (r2_iff.mpr ⟨hz', hn', y, x4 y hz, h, v', hu⟩))
        · exact Or.inr (Or.inr (r3_iff.mpr ⟨hz', hn', y, x4 y hz, h, v', hu⟩))
        · exact absurd hz' (fun g => p4 hh hS hr h8 h hu g)
      · exact ⟨fun e => hz' (e ▸ XZ), fun g => absurd g hz'⟩
    · obtain ⟨g1, g2, _⟩ := x5 y y' v' hz hu hy'
      exact ⟨g2, fun g => absurd g g1⟩
  · -- one letter
    cases hm : mL Zs N y with
    | true =>
      refine Or.inl ⟨rfl, ?_⟩
      unfold gL
      refine sU_mono (fun u hu => ?_)
      cases hb : ntB u with
      | false => rw [dF_no _ hb, dF_no _ hb]; exact Nat.le_refl _
      | true =>
        obtain ⟨y', v, hy', rfl⟩ := nt_ex hb
        rw [dF_cons _ hy', dF_cons _ hy']
        exact d_nZ hy' (x5 y y' v (mL_nZ hm) hu hy').1
    | false =>
      right
      cases hn : nf N y with
      | false =>
        left
        refine ⟨rfl, fun u hu => ?_, ?_⟩
        · cases hb : ntB u with
          | false => rfl
          | true => rw [nf_iff.mpr ⟨u, hu, hb⟩] at hn; cases hn
        · unfold dZ
          rw [hm, if_neg (by decide), hn, if_pos (by decide)]
          exact Nat.le_refl _
      | true =>
        right
        have hz : y ∈ Zs := by
          by_cases hz : y ∈ Zs
          · exact hz
          · rw [nf_mL hy16 hn hz] at hm; cases hm
        refine ⟨rfl, ?_, fun n' v S' hr' hl' hs' => ?_⟩
        · cases h3 : r3 Zs N S y with
          | true =>
            rw [if_pos rfl, d_3 h3]
            have h4 := r3_old hh hS h3
            have hlet := letters hh
            have htf := two_filters (Zs := Zs) (N := N) (List.range 16)
            have hme := LL_me (Zs := Zs) (N := N)
            have hD : sU (dF (dZ Zs N S q)) (N y) ≤ 2 * ((List.range 16).filter (fun y => !mL Zs N y && decide (y ∉ Zs))).length := by
              have e1 := sU_sub (dF (dZ Zs N S q)) (hnd y) (m := (N y).filter (fun u => decide (dF (dZ Zs N S q) u = 0)) ++ ((List.range 16).filter (fun y => !mL Zs N y && decide (y ∉ Zs))).flatMap (fun t => [[t + 1], [t + 1, y + 1]])) (fun u hu => by
                by_cases h0 : dF (dZ Zs N S q) u = 0
                · exact List.mem_append_left _ (List.mem_filter.mpr ⟨hu, decide_eq_true h0⟩)
                · apply List.mem_append_right
                  have hb : ntB u = true := by
                    cases hb : ntB u with
                    | true => rfl
                    | false => exact absurd (dF_no _ hb) h0
                  obtain ⟨c, e2, _⟩ := thin hh hS hr h8 h3 (Dm.base hu)
                  obtain ⟨t, v, ht, e3⟩ := nt_ex hb
                  have hc : c = t + 1 := by
                    rcases e2 with e2 | e2
                    · rw [e2] at e3; have := congrArg List.head? e3; simpa using this
                    · rw [e2] at e3; have := congrArg List.head? e3; simpa using this
                  have htZ : t ∉ Zs := fun g => p4 hh hS hr h8 h3 (e3 ▸ hu) g
                  have htm : mL Zs N t = false := by
                    cases htm : mL Zs N t with
                    | false => rfl
                    | true =>
                      exfalso
                      apply h0
                      rw [e3, dF_cons _ ht, d_mL htm]
                  refine List.mem_flatMap.mpr ⟨t, List.mem_filter.mpr ⟨List.mem_range.mpr ht, by rw [htm]; simpa using htZ⟩, ?_⟩
                  rw [hc] at e2
                  rcases e2 with e2 | e2
                  · rw [e2]; exact List.mem_cons_self ..
                  · rw [e2]; exact List.mem_cons_of_mem _ (List.mem_singleton.mpr rfl))
              rw [sU_app] at e1
              have e2 : sU (dF (dZ Zs N S q)) ((N y).filter (fun u => decide (dF (dZ Zs N S q) u = 0))) ≤ ((N y).filter (fun u => decide (dF (dZ Zs N S q) u = 0))).length * 0 := sU_le (fun u hu => Nat.le_of_eq (of_decide_eq_true (List.mem_filter.mp hu).2))
              have e3 : ∀ l : List Nat, (∀ t ∈ l, t < 16 ∧ t ∉ Zs) → sU (dF (dZ Zs N S q)) (l.flatMap (fun t => [[t + 1], [t + 1, y + 1]])) ≤ 2 * l.length := by
                intro l
                induction l with
                | nil => intro _; exact Nat.le_refl _
                | cons t l ih =>
                  intro h
                  have h1 := ih (fun t' ht' => h t' (List.mem_cons_of_mem _ ht'))
                  obtain ⟨t1, t2⟩ := h t (List.mem_cons_self ..)
                  have h2 := d_nZ1 t1 t2
                  rw [List.flatMap_cons, sU_app, List.length_cons]
                  simp only [sU]
                  rw [dF_cons _ t1, dF_cons _ t1]
                  omega
              have e4 := e3 ((List.range 16).filter (fun y => !mL Zs N y && decide (y ∉ Zs))) (fun t ht => by
                obtain ⟨g1, g2⟩ := List.mem_filter.mp ht
                rw [Bool.and_eq_true, decide_eq_true_eq] at g2
                exact ⟨List.mem_range.mp g1, g2.2⟩)
              omega
            unfold W3
            omega
          | false =>
            rw [if_neg (by decide)]
            cases h2 : r2 Zs N S y with
            | true =>
              rw [d_2 h2 h3]
              have e1 : sU (dF (dZ Zs N S q)) (N y) ≤ cn N y * W3 Zs N := sU_filt (N y) (fun u hu hb => by
                obtain ⟨y', v, hy', rfl⟩ := nt_ex hb
                rw [dF_cons _ hy']
                by_cases hz' : y' ∈ Zs
                · cases hn' : nf N y' with
                  | false => exact Nat.le_trans (d_fl hn') W3p
                  | true => exact Nat.le_of_eq (d_3 (r3_iff.mpr ⟨hz', hn', y, hy16, h2, v, hu⟩))
                · exact Nat.le_trans (d_nZ1 hy' hz') W3p)
              have e2 : cn N y * W3 Zs N ≤ c2 Zs N S * W3 Zs N := Nat.mul_le_mul_right _ (c2_ge hy16 h2 h3)
              unfold W2
              omega
            | false =>
              have h1 : r1 Zs N S y = true := by
                rcases hy.2 hz hn with h | h | h
                · exact h
                · rw [h2] at h; cases h
                · rw [h3] at h; cases h
              rw [d_1 h1 h2 h3]
              have e1 : sU (dF (dZ Zs N S q)) (N y) ≤ cn N y * W2 Zs N S q := sU_filt (N y) (fun u hu hb => by
                obtain ⟨y', v, hy', rfl⟩ := nt_ex hb
                rw [dF_cons _ hy']
                by_cases hz' : y' ∈ Zs
                · cases hn' : nf N y' with
                  | false => exact Nat.le_trans (d_fl hn') W2p
                  | true =>
                    have g2 : r2 Zs N S y' = true := r2_iff.mpr ⟨hz', hn', y, hy16, h1, v, hu⟩
                    cases g3 : r3 Zs N S y' with
                    | true => rw [d_3 g3]; exact w32 g3
                    | false => exact Nat.le_of_eq (d_2 g2 g3)
                · exact Nat.le_trans (d_nZ1 hy' hz') W2p)
              have e2 : cn N y * W2 Zs N S q ≤ c1 Zs N S * W2 Zs N S q := Nat.mul_le_mul_right _ (c1_ge hy16 h1 h2 h3)
              show 1 + q + _ ≤ W1 Zs N S q
              unfold W1
              omega
        · cases h3 : r3 Zs N S y with
          | true => rw [if_pos rfl]; exact thin_cov hh hS hr h8 h3 v
          | false =>
            rw [if_neg (by decide), ← hq]
            exact Cov_A hup x1 mL_16 hr' hl' (fun w hw => by
              obtain ⟨u, hu, e⟩ := List.mem_map.mp hw
              rw [← e]
              exact hs' u hu)
  · -- the first letters at the start
    by_cases hz : y ∈ Zs
    · exact ⟨zX y (hS.2.1 y v hv hz).1, fun _ hn => Or.inl (r1_iff.mpr ⟨hz, hn, v, hv⟩)⟩
    · exact ⟨fun e => hz (e ▸ XZ), fun g => absurd g hz⟩
end ONEW
