/-! toGreibach: how many steps one left side takes -/
def XH (Zs : List Nat) (X : Nat) (N : Nat → WL) : Prop :=
  (∀ y u, u ∈ N y → u ≠ []) ∧ N X = [] ∧ Zs.Nodup ∧ (∀ z ∈ Zs, z < 16) ∧
  (∀ y y' v, y ∉ Zs → (y' + 1) :: v ∈ N y → y' < 16 → y' ∉ Zs ∧ y' ≠ X ∧ (y < y' ∨ ∀ u, u ∈ N y' → ntB u = false)) ∧
  (∀ z y v, z ∈ Zs → (y + 1) :: v ∈ N z → y ∈ Zs → y ∈ old Zs z ∧ v ≠ []) ∧
  (∀ z w, z ∈ Zs → X < z → w ∈ N z → (∃ w', w = w' ++ [z + 1] ∧ w' ≠ [] ∧ w' ∈ N z) ∨ w ++ [z + 1] ∈ N z) ∧
  ∀ y u, y < X → u ∈ N y → ntB u = false
/-- letters that are told on and not made by turning -/
def mL (Zs : List Nat) (N : Nat → WL) (y : Nat) : Bool := decide (y < 16) && decide (y ∉ Zs) && (N y).any ntB
def d0 (Zs : List Nat) (N : Nat → WL) (y : Nat) : Nat := if mL Zs N y then 0 else 1
def gL (Zs : List Nat) (N : Nat → WL) (y : Nat) : Nat := sU (dF (d0 Zs N)) (N y)
/-- how many right sides begin with a nonterminal -/
def cn (N : Nat → WL) (y : Nat) : Nat := ((N y).filter ntB).length
def eL (Zs : List Nat) (N : Nat → WL) : Nat := sU (fun y => if mL Zs N y then cn N y else 0) (List.range 16)
def LL (Zs : List Nat) (N : Nat → WL) : Nat := Lam (mL Zs N) (gL Zs N) (List.range 16)
section ONE
variable {Zs : List Nat} {X : Nat} {N : Nat → WL} {a : Nat}
theorem mL_iff {y : Nat} : mL Zs N y = true ↔ y < 16 ∧ y ∉ Zs ∧ ∃ u, u ∈ N y ∧ ntB u = true := by
  unfold mL
  rw [Bool.and_eq_true, Bool.and_eq_true, decide_eq_true_eq, decide_eq_true_eq, List.any_eq_true]
  exact ⟨fun h => ⟨h.1.1, h.1.2, h.2⟩, fun h => ⟨⟨h.1, h.2.1⟩, h.2.2⟩⟩
theorem mL_16 : ∀ y, mL Zs N y = true → y < 16 := fun _ h => (mL_iff.mp h).1
theorem mL_up (h : XH Zs X N) : ∀ y, mL Zs N y = true → ∀ u, u ∈ N y → ∀ y' v', u = (y' + 1) :: v' → mL Zs N y' = true → y < y' := by
  intro y hy u hu y' v' e hy'
  obtain ⟨h1, h2, h3, h4, h5, h6, h7, h8⟩ := h
  rw [e] at hu
  rcases (h5 y y' v' (mL_iff.mp hy).2.1 hu (mL_iff.mp hy').1).2.2 with g | g
  · exact g
  · obtain ⟨u', hu', hb⟩ := (mL_iff.mp hy').2.2
    rw [g u' hu'] at hb
    cases hb
theorem sU_filt {d : Nat → Nat} {k : Nat} (l : WL) (h : ∀ u, u ∈ l → ntB u = true → dF d u ≤ k) : sU (dF d) l ≤ (l.filter ntB).length * k := by
  induction l with
  | nil => exact Nat.zero_le _
  | cons u l ih =>
    have h1 := ih (fun u' hu' => h u' (List.mem_cons_of_mem _ hu'))
    simp only [sU]
    rw [List.filter_cons]
    cases hb : ntB u with
    | false => rw [if_neg (by decide), dF_no d hb]; omega
    | true =>
      rw [if_pos rfl, List.length_cons, Nat.add_mul, Nat.one_mul]
      have := h u (List.mem_cons_self ..) hb
      omega
theorem gL_le (y : Nat) : gL Zs N y ≤ cn N y := by
  have := sU_filt (d := d0 Zs N) (k := 1) (N y) (fun u _ hb => by
    obtain ⟨y', v, hy, rfl⟩ := nt_ex hb
    rw [dF_cons _ hy]
    unfold d0
    split <;> decide)
  rw [Nat.mul_one] at this
  exact this
theorem cn_pos {y : Nat} {u : List Nat} (hu : u ∈ N y) (hb : ntB u = true) : 1 ≤ cn N y := List.length_pos_of_mem (List.mem_filter.mpr ⟨hu, hb⟩)
theorem LL_2e : LL Zs N ≤ 2 * eL Zs N := by
  unfold LL eL Lam
  generalize List.range 16 = l
  induction l with
  | nil => exact Nat.zero_le _
  | cons y l ih =>
    simp only [sU]
    cases hy : mL Zs N y with
    | false => rw [if_neg (by decide), if_neg (by decide)]; omega
    | true =>
      rw [if_pos rfl, if_pos rfl]
      obtain ⟨_, _, u, hu, hb⟩ := mL_iff.mp hy
      have h1 := cn_pos hu hb
      have h2 := gL_le (Zs := Zs) (N := N) y
      omega
theorem LL_me : LL Zs N ≤ ((List.range 16).filter (mL Zs N)).length + eL Zs N := by
  unfold LL eL Lam
  generalize List.range 16 = l
  induction l with
  | nil => exact Nat.zero_le _
  | cons y l ih =>
    simp only [sU]
    rw [List.filter_cons]
    cases hy : mL Zs N y with
    | false => rw [if_neg (by decide), if_neg (by decide), if_neg (by decide)]; omega
    | true =>
      rw [if_pos rfl, if_pos rfl, if_pos rfl, List.length_cons]
      have h2 := gL_le (Zs := Zs) (N := N) y
      omega
/-- a left side that isn't made by turning -/
theorem one_m (h : XH Zs X N) {n : Nat} {S : WL} (hr : RX N a n S) (hl : S.length ≤ a) (hS : ∀ y v, (y + 1) :: v ∈ S → y < 16 → y ∉ Zs ∧ y ≠ X) : n ≤ a + a * LL Zs N := by
  have hh := h
  obtain ⟨h1, h2, h3, h4, h5, h6, h7, h8⟩ := h
  have := RX_C (mB := mL Zs N) (d := d0 Zs N) (γ := gL Zs N) (κ := fun _ => 0) (Fr := fun y => y ∉ Zs ∧ y ≠ X) (a := a) (mL_up hh) h1 mL_16 (fun y hy u hu y' v' e hy' => by
    rw [e] at hu
    have := h5 y y' v' hy.1 hu hy'
    exact ⟨this.1, this.2.1⟩) (fun y hy hy16 => by
    cases hm : mL Zs N y with
    | true => exact Or.inl ⟨rfl, Nat.le_refl _⟩
    | false =>
      refine Or.inr (Or.inl ⟨rfl, fun u hu => ?_, ?_⟩)
      · cases hb : ntB u with
        | false => rfl
        | true => rw [mL_iff.mpr ⟨hy16, hy.1, u, hu, hb⟩] at hm; cases hm
      · unfold d0
        rw [hm, if_neg (by decide)]
        exact Nat.le_refl _) n S (a * LL Zs N) hr hl hS (Cov_A (mL_up hh) h1 mL_16 hr hl (fun w hw => hw))
  have h9 : sU (dF (d0 Zs N)) S ≤ S.length * 1 := sU_le (fun w _ => by
    cases hb : ntB w with
    | false => rw [dF_no _ hb]; exact Nat.zero_le _
    | true =>
      obtain ⟨y, v, hy, rfl⟩ := nt_ex hb
      rw [dF_cons _ hy]
      unfold d0
      split <;> decide)
  omega
-- a left side that is
def nf (N : Nat → WL) (y : Nat) : Bool := (N y).any ntB
def zf (L : WL) (y : Nat) : Bool := L.any (fun u => decide (u.getD 0 0 = y + 1))
theorem zf_iff {L : WL} {y : Nat} : zf L y = true ↔ ∃ v, (y + 1) :: v ∈ L := by
  unfold zf
  rw [List.any_eq_true]
  constructor
  · rintro ⟨u, hu, e⟩
    have e : u.getD 0 0 = y + 1 := of_decide_eq_true e
    match u, hu, e with
    | [], _, e => simp at e
    | b :: v, hu, e =>
      have : b = y + 1 := by simpa using e
      exact ⟨v, by rw [← this]; exact hu⟩
  · rintro ⟨v, hv⟩
    exact ⟨_, hv, decide_eq_true rfl⟩
def r1 (Zs : List Nat) (N : Nat → WL) (S : WL) (y : Nat) : Bool := decide (y ∈ Zs) && nf N y && zf S y
def r2 (Zs : List Nat) (N : Nat → WL) (S : WL) (y : Nat) : Bool := decide (y ∈ Zs) && nf N y && (List.range 16).any (fun t => r1 Zs N S t && zf (N t) y)
def r3 (Zs : List Nat) (N : Nat → WL) (S : WL) (y : Nat) : Bool := decide (y ∈ Zs) && nf N y && (List.range 16).any (fun t => r2 Zs N S t && zf (N t) y)
theorem r1_iff {S : WL} {y : Nat} : r1 Zs N S y = true ↔ y ∈ Zs ∧ nf N y = true ∧ ∃ v, (y + 1) :: v ∈ S := by
  unfold r1
  rw [Bool.and_eq_true, Bool.and_eq_true, decide_eq_true_eq, zf_iff]
  exact ⟨fun h => ⟨h.1.1, h.1.2, h.2⟩, fun h => ⟨⟨h.1, h.2.1⟩, h.2.2⟩⟩
theorem r2_iff {S : WL} {y : Nat} : r2 Zs N S y = true ↔ y ∈ Zs ∧ nf N y = true ∧ ∃ t, t < 16 ∧ r1 Zs N S t = true ∧ ∃ v, (y + 1) :: v ∈ N t := by
  unfold r2
  rw [Bool.and_eq_true, Bool.and_eq_true, decide_eq_true_eq, List.any_eq_true]
  constructor
  · rintro ⟨⟨h1, h2⟩, t, ht, h⟩
    rw [Bool.and_eq_true, zf_iff] at h
    exact ⟨h1, h2, t, List.mem_range.mp ht, h⟩
  · rintro ⟨h1, h2, t, ht, h⟩
    exact ⟨⟨h1, h2⟩, t, List.mem_range.mpr ht, by rw [Bool.and_eq_true, zf_iff]; exact h⟩
theorem r3_iff {S : WL} {y : Nat} : r3 Zs N S y = true ↔ y ∈ Zs ∧ nf N y = true ∧ ∃ t, t < 16 ∧ r2 Zs N S t = true ∧ ∃ v, (y + 1) :: v ∈ N t := by
  unfold r3
  rw [Bool.and_eq_true, Bool.and_eq_true, decide_eq_true_eq, List.any_eq_true]
  constructor
  · rintro ⟨⟨h1, h2⟩, t, ht, h⟩
    rw [Bool.and_eq_true, zf_iff] at h
    exact ⟨h1, h2, t, List.mem_range.mp ht, h⟩
  · rintro ⟨h1, h2, t, ht, h⟩
    exact ⟨⟨h1, h2⟩, t, List.mem_range.mpr ht, by rw [Bool.and_eq_true, zf_iff]; exact h⟩
/-- a right side that begins with a letter made before has a longer one beside it -/
theorem longer {Zs : List Nat} {z : Nat} {L : WL} (hd : ∀ w, w ∈ L → (∃ w', w = w' ++ [z + 1] ∧ w' ≠ [] ∧ w' ∈ L) ∨ w ++ [z + 1] ∈ L) (hv : ∀ y v, (y + 1) :: v ∈ L → y ∈ Zs → v ≠ []) {y : Nat} (hy : y ∈ Zs) {v : List Nat} (h : (y + 1) :: v ∈ L) : ∃ v', 2 ≤ v'.length ∧ (y + 1) :: v' ∈ L := by
  have h1 := hv y v h hy
  match v, h1, h with
  | [], h1, _ => exact absurd rfl h1
  | [b], _, h =>
    rcases hd _ h with ⟨w', e1, e2, e3⟩ | e
    · exfalso
      match w', e1, e2, e3 with
      | [], _, e2, _ => exact e2 rfl
      | [c], e1, _, e3 =>
        have : c = y + 1 := by have := congrArg List.head? e1; simpa using this.symm
        rw [this] at e3
        exact hv y [] e3 hy rfl
      | c :: c' :: w', e1, _, _ =>
        have := congrArg List.length e1
        simp at this
    · exact ⟨[b, z + 1], Nat.le_refl _, e⟩
  | b :: b' :: v, _, h => exact ⟨b :: b' :: v, by simp, h⟩
theorem nf_gt (h : XH Zs X N) {z : Nat} (hz : nf N z = true) : X < z := by
  obtain ⟨h1, h2, h3, h4, h5, h6, h7, h8⟩ := h
  unfold nf at hz
  obtain ⟨u, hu, hb⟩ := List.any_eq_true.mp hz
  rcases Nat.lt_trichotomy X z with g | g | g
  · exact g
  · rw [← g, h2] at hu; cases hu
  · rw [h8 z u g hu] at hb; cases hb
theorem XH_long (h : XH Zs X N) {z y : Nat} (hz : z ∈ Zs) (hn : nf N z = true) (hy : y ∈ Zs) {v : List Nat} (hv : (y + 1) :: v ∈ N z) : ∃ v', 2 ≤ v'.length ∧ (y + 1) :: v' ∈ N z := by
  have hg := nf_gt h hn
  obtain ⟨h1, h2, h3, h4, h5, h6, h7, h8⟩ := h
  exact longer (fun w hw => h7 z w hz hg hw) (fun y v hv hy => (h6 z y v hz hv hy).2) hy hv
end ONE
