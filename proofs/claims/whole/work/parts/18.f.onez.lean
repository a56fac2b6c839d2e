/-! toGreibach: a left side made by turning -/
def mxs (f : Nat → Nat) : List Nat → Nat
  | [] => 0
  | a :: l => max (f a) (mxs f l)
theorem mxs_ge (f : Nat → Nat) : ∀ {l : List Nat} {a : Nat}, a ∈ l → f a ≤ mxs f l := by
  intro l
  induction l with
  | nil => intro a h; cases h
  | cons b l ih =>
    intro a h
    simp only [mxs]
    rcases List.mem_cons.mp h with e | e
    · rw [e]; exact Nat.le_max_left ..
    · exact Nat.le_trans (ih e) (Nat.le_max_right ..)
theorem mxs_at (f : Nat → Nat) : ∀ (l : List Nat), mxs f l = 0 ∨ ∃ a, a ∈ l ∧ f a = mxs f l := by
  intro l
  induction l with
  | nil => exact Or.inl rfl
  | cons b l ih =>
    simp only [mxs]
    rcases Nat.le_total (f b) (mxs f l) with h | h
    · rw [Nat.max_eq_right h]
      rcases ih with e | ⟨a, ha, e⟩
      · exact Or.inl e
      · exact Or.inr ⟨a, List.mem_cons_of_mem _ ha, e⟩
    · rw [Nat.max_eq_left h]
      exact Or.inr ⟨b, List.mem_cons_self .., rfl⟩
def P2 (f : Nat → Nat) : List Nat → Nat
  | [] => 0
  | a :: l => max (f a * mxs f l) (P2 f l)
theorem P2_ge (f : Nat → Nat) : ∀ {l : List Nat} {a b : Nat}, a ∈ l → b ∈ l → a ≠ b → f a * f b ≤ P2 f l := by
  intro l
  induction l with
  | nil => intro a b h; cases h
  | cons c l ih =>
    intro a b ha hb hab
    simp only [P2]
    rcases List.mem_cons.mp ha with ea | ea
    · rcases List.mem_cons.mp hb with eb | eb
      · exact absurd (ea.trans eb.symm) hab
      · refine Nat.le_trans ?_ (Nat.le_max_left ..)
        rw [ea]
        exact Nat.mul_le_mul_left _ (mxs_ge f eb)
    · rcases List.mem_cons.mp hb with eb | eb
      · refine Nat.le_trans ?_ (Nat.le_max_left ..)
        rw [eb, Nat.mul_comm]
        exact Nat.mul_le_mul_left _ (mxs_ge f ea)
      · exact Nat.le_trans (ih ea eb hab) (Nat.le_max_right ..)
theorem Dm.mono {M M' : Nat → Prop} {N : Nat → WL} {S : WL} {w : List Nat} (h : Dm M N S w) (hM : ∀ y, M y → M' y) : Dm M' N S w := h (Dm M' N S) (fun _ hw => Dm.base hw) (fun y _ _ hy h1 hu => h1.step (hM y hy) hu)
/-- what S is like -/
def SH (Zs : List Nat) (X : Nat) (S : WL) : Prop := X ∈ Zs ∧ (∀ y v, (y + 1) :: v ∈ S → y ∈ Zs → y ∈ old Zs X ∧ v ≠ []) ∧ ∀ w, w ∈ S → (∃ w', w = w' ++ [X + 1] ∧ w' ≠ [] ∧ w' ∈ S) ∨ w ++ [X + 1] ∈ S
section ONEZ
variable {Zs : List Nat} {X : Nat} {N : Nat → WL} {a n : Nat} {S : WL}
theorem p1 (hS : SH Zs X S) {y : Nat} (h : r1 Zs N S y = true) : ∃ v, 2 ≤ v.length ∧ Dm (fun y => y < 16) N S ((y + 1) :: v) := by
  obtain ⟨s1, s2, s3⟩ := hS
  obtain ⟨g1, g2, v, g3⟩ := r1_iff.mp h
  obtain ⟨v', e1, e2⟩ := longer (Zs := Zs) s3 (fun y v hv hy => (s2 y v hv hy).2) g1 g3
  exact ⟨v', e1, Dm.base e2⟩
theorem p2 (hX : XH Zs X N) (hS : SH Zs X S) {y : Nat} (h : r2 Zs N S y = true) : ∃ v, 4 ≤ v.length ∧ Dm (fun y => y < 16) N S ((y + 1) :: v) := by
  obtain ⟨g1, g2, t, g3, g4, v, g5⟩ := r2_iff.mp h
  obtain ⟨v1, e1, e2⟩ := p1 hS g4
  obtain ⟨k1, k2, _⟩ := r1_iff.mp g4
  obtain ⟨v2, e3, e4⟩ := XH_long hX k1 k2 g1 g5
  exact ⟨v2 ++ v1, by rw [List.length_append]; omega, Dm.step (M := fun y => y < 16) g3 e2 e4⟩
theorem p3 (hX : XH Zs X N) (hS : SH Zs X S) {y : Nat} (h : r3 Zs N S y = true) : ∃ v, 6 ≤ v.length ∧ Dm (fun y => y < 16) N S ((y + 1) :: v) := by
  obtain ⟨g1, g2, t, g3, g4, v, g5⟩ := r3_iff.mp h
  obtain ⟨v1, e1, e2⟩ := p2 hX hS g4
  obtain ⟨k1, k2, _⟩ := r2_iff.mp g4
  obtain ⟨v2, e3, e4⟩ := XH_long hX k1 k2 g1 g5
  exact ⟨v2 ++ v1, by rw [List.length_append]; omega, Dm.step (M := fun y => y < 16) g3 e2 e4⟩
theorem p4 (hX : XH Zs X N) (hS : SH Zs X S) (hr : RX N a n S) (h8 : ∀ w ∈ S, w.length ≤ 8) {y : Nat} (h : r3 Zs N S y = true) {y' : Nat} {v : List Nat} (hv : (y' + 1) :: v ∈ N y) (hy' : y' ∈ Zs) : False := by
  obtain ⟨v1, e1, e2⟩ := p3 hX hS h
  obtain ⟨k1, k2, _⟩ := r3_iff.mp h
  obtain ⟨v2, e3, e4⟩ := XH_long hX k1 k2 hy' hv
  have y16 : y < 16 := hX.2.2.2.1 y k1
  have := RX_B n S hr h8 _ (Dm.step (M := fun y => y < 16) y16 e2 e4)
  rw [List.length_append, List.length_cons] at this
  omega
/-- the letters that are deepest down make right sides of one symbol, or of one and themselves -/
theorem thin_len (hX : XH Zs X N) (hS : SH Zs X S) (hr : RX N a n S) (h8 : ∀ w ∈ S, w.length ≤ 8) {z : Nat} (h : r3 Zs N S z = true) {u : List Nat} (hu : Dm (fun y => y < 16) N (N z) u) : u.length ≤ 2 := by
  obtain ⟨v1, e1, e2⟩ := p3 hX hS h
  obtain ⟨k1, _, _⟩ := r3_iff.mp h
  have z16 : z < 16 := hX.2.2.2.1 z k1
  have key : Dm (fun y => y < 16) N S (u ++ v1) := hu (fun u => Dm (fun y => y < 16) N S (u ++ v1)) (fun u hu => Dm.step (M := fun y => y < 16) z16 e2 hu) (fun y v u' hy hh hu' => by
    rw [List.append_assoc]
    exact Dm.step (M := fun y => y < 16) hy hh hu')
  have := RX_B n S hr h8 _ key
  rw [List.length_append] at this
  omega
theorem thin (hX : XH Zs X N) (hS : SH Zs X S) (hr : RX N a n S) (h8 : ∀ w ∈ S, w.length ≤ 8) {z : Nat} (h : r3 Zs N S z = true) {u : List Nat} (hu : Dm (fun y => mL Zs N y = true) N (N z) u) : ∃ c, (u = [c] ∨ u = [c, z + 1]) ∧ Dm (fun y => mL Zs N y = true) N (N z) [c, z + 1] := by
  have hlen : ∀ u, Dm (fun y => mL Zs N y = true) N (N z) u → u.length ≤ 2 := fun u hu => thin_len hX hS hr h8 h (hu.mono mL_16)
  obtain ⟨k1, k2, _⟩ := r3_iff.mp h
  have hg := nf_gt hX k2
  have hX7 := hX.2.2.2.2.2.2.1
  have hne := hX.1
  refine hu (fun u => ∃ c, (u = [c] ∨ u = [c, z + 1]) ∧ Dm (fun y => mL Zs N y = true) N (N z) [c, z + 1]) (fun u hu => ?_) (fun y v u' hy hh hu' => ?_)
  · have l1 := hlen u (Dm.base hu)
    rcases hX7 z u k1 hg hu with ⟨w', e1, e2, e3⟩ | e
    · have l2 := congrArg List.length e1
      rw [List.length_append, List.length_singleton] at l2
      match w', e1, e2 with
      | [], _, e2 => exact absurd rfl e2
      | [c], e1, _ =>
        have e1 : u = [c, z + 1] := e1
        exact ⟨c, Or.inr e1, e1 ▸ Dm.base hu⟩
      | c :: c' :: w', _, _ => simp at l2; omega
    · have l2 := hlen _ (Dm.base e)
      rw [List.length_append, List.length_singleton] at l2
      match u, hu, e with
      | [], hu, _ => exact absurd rfl (hne z _ hu)
      | [c], _, e => exact ⟨c, Or.inl rfl, Dm.base e⟩
      | c :: c' :: u, _, _ => simp at l2
  · obtain ⟨c, e1, e2⟩ := hh
    have ec : c = y + 1 := by
      rcases e1 with e | e
      · have := congrArg List.head? e; simpa using this.symm
      · have := congrArg List.head? e; simpa using this.symm
    rw [ec] at e2
    have hd : Dm (fun y => mL Zs N y = true) N (N z) (u' ++ [z + 1]) := Dm.step (M := fun y => mL Zs N y = true) hy e2 hu'
    have l2 := hlen _ hd
    rw [List.length_append, List.length_singleton] at l2
    match u', hu', hd, l2 with
    | [], hu', _, _ => exact absurd rfl (hne y _ hu')
    | [c'], _, hd, _ =>
      refine ⟨c', ?_, hd⟩
      rcases e1 with e | e
      · have : v = [] := by have := congrArg List.tail e; simpa using this
        left; rw [this]; rfl
      · have : v = [z + 1] := by have := congrArg List.tail e; simpa using this
        right; rw [this]; rfl
    | c' :: c'' :: u', _, _, l2 => simp at l2
theorem thin_cov (hX : XH Zs X N) (hS : SH Zs X S) (hr : RX N a n S) (h8 : ∀ w ∈ S, w.length ≤ 8) {z : Nat} (h : r3 Zs N S z = true) (v : List Nat) : Cov (mL Zs N) N (gL Zs N) ((N z).map (fun u => u ++ v)) (2 * LL Zs N) := by
  refine ⟨(List.range 16).flatMap (fun y => if mL Zs N y then [(y + 1) :: v, (y + 1) :: (z + 1) :: v] else []), fun y v' hy hd => ?_, ?_⟩
  · have h1 : ∃ u, Dm (fun y => mL Zs N y = true) N (N z) u ∧ (y + 1) :: v' = u ++ v := by
      refine hd (fun w => ∃ u, Dm (fun y => mL Zs N y = true) N (N z) u ∧ w = u ++ v) (fun w hw => ?_) (fun y1 v1 u' hy1 hh hu' => ?_)
      · obtain ⟨u, hu, e⟩ := List.mem_map.mp hw
        exact ⟨u, Dm.base hu, e.symm⟩
      · obtain ⟨u, hu, e⟩ := hh
        obtain ⟨c, e1, _⟩ := thin hX hS hr h8 h hu
        match u, hu, e, e1 with
        | [], _, _, e1 => rcases e1 with e1 | e1 <;> cases e1
        | b :: u1, hu, e, _ =>
          have eb : b = y1 + 1 := by have := congrArg List.head? e; simpa using this.symm
          have ev : v1 = u1 ++ v := by have := congrArg List.tail e; simpa using this
          rw [eb] at hu
          exact ⟨u' ++ u1, Dm.step (M := fun y => mL Zs N y = true) hy1 hu hu', by rw [ev, List.append_assoc]⟩
    obtain ⟨u, hu, e⟩ := h1
    obtain ⟨c, e1, _⟩ := thin hX hS hr h8 h hu
    refine List.mem_flatMap.mpr ⟨y, List.mem_range.mpr (mL_16 y hy), ?_⟩
    rw [if_pos hy]
    rcases e1 with e1 | e1
    · rw [e1] at e
      have : v' = v := by have := congrArg List.tail e; simpa using this
      rw [this]
      exact List.mem_cons_self ..
    · rw [e1] at e
      have : v' = (z + 1) :: v := by have := congrArg List.tail e; simpa using this
      rw [this]
      exact List.mem_cons_of_mem _ (List.mem_singleton.mpr rfl)
  · unfold LL Lam
    generalize List.range 16 = l
    induction l with
    | nil => exact Nat.zero_le _
    | cons y l ih =>
      rw [List.flatMap_cons, sU_app]
      simp only [sU]
      cases hy : mL Zs N y with
      | false => rw [if_neg (by decide), if_neg (by decide)]; simp only [sU]; omega
      | true =>
        rw [if_pos rfl, if_pos rfl]
        have e : ∀ w : List Nat, cwt (mL Zs N) (gL Zs N) ((y + 1) :: w) = 1 + gL Zs N y := fun w => by
          unfold cwt
          show (if mL Zs N (y + 1 - 1) = true then 1 + gL Zs N (y + 1 - 1) else 0) = _
          rw [Nat.add_sub_cancel, if_pos hy]
        simp only [sU]
        rw [e, e]
        omega
theorem r1_old (hS : SH Zs X S) {y : Nat} (h : r1 Zs N S y = true) : y ∈ old Zs X := by
  obtain ⟨g1, _, v, g3⟩ := r1_iff.mp h
  exact (hS.2.1 y v g3 g1).1
theorem r2_old (hX : XH Zs X N) (hS : SH Zs X S) {y : Nat} (h : r2 Zs N S y = true) : y ∈ old Zs X ∧ ∃ t, r1 Zs N S t = true ∧ y ∈ old Zs t := by
  obtain ⟨g1, _, t, _, g4, v, g5⟩ := r2_iff.mp h
  have := (hX.2.2.2.2.2.1 t y v (r1_iff.mp g4).1 g5 g1).1
  exact ⟨old_tr hX.2.2.1 (r1_old hS g4) this, t, g4, this⟩
theorem r3_old (hX : XH Zs X N) (hS : SH Zs X S) {y : Nat} (h : r3 Zs N S y = true) : 4 ≤ Zs.length := by
  obtain ⟨g1, _, t, _, g4, v, g5⟩ := r3_iff.mp h
  have e1 := (hX.2.2.2.2.2.1 t y v (r2_iff.mp g4).1 g5 g1).1
  obtain ⟨_, t', e2, e3⟩ := r2_old hX hS g4
  have e4 := r1_old hS e2
  have l1 := old_len hX.2.2.1 e1
  have l2 := old_len hX.2.2.1 e3
  have l3 := old_len hX.2.2.1 e4
  have l4 := old_lt hS.1
  omega
/-- where a second step goes on to one, a first step does that no second one does -/
theorem c1pos (hX : XH Zs X N) (hS : SH Zs X S) (hr : RX N a n S) (h8 : ∀ w ∈ S, w.length ≤ 8) : ∀ (k t y : Nat) (v : List Nat), Zs.length ≤ (old Zs t).length + k → r1 Zs N S t = true → (y + 1) :: v ∈ N t → y ∈ Zs → ∃ t, t < 16 ∧ r1 Zs N S t = true ∧ r2 Zs N S t = false ∧ r3 Zs N S t = false ∧ 1 ≤ cn N t := by
  intro k
  induction k with
  | zero =>
    intro t y v hk ht _ _
    have := old_lt (r1_iff.mp ht).1
    omega
  | succ k ih =>
    intro t y v hk ht hv hy
    cases h2 : r2 Zs N S t with
    | true =>
      obtain ⟨g1, _, s, _, g4, v', g5⟩ := r2_iff.mp h2
      have := old_len hX.2.2.1 (hX.2.2.2.2.2.1 s t v' (r1_iff.mp g4).1 g5 g1).1
      exact ih s t v' (by omega) g4 g5 g1
    | false =>
      have y16 := hX.2.2.2.1 y hy
      refine ⟨t, hX.2.2.2.1 t (r1_iff.mp ht).1, ht, h2, ?_, cn_pos hv (by rw [nt_cons]; exact decide_eq_true y16)⟩
      cases h3 : r3 Zs N S t with
      | false => rfl
      | true => exact absurd hy (fun hy => p4 hX hS hr h8 h3 hv hy)
end ONEZ
