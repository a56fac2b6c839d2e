/-! toGreibach: telling first symbols, for one left side -/
def ntB (w : List Nat) : Bool := decide (1 ≤ w.getD 0 0) && decide (w.getD 0 0 ≤ 16)
theorem nt_cons (y : Nat) (v : List Nat) : ntB ((y + 1) :: v) = decide (y < 16) := by
  unfold ntB
  show (decide (1 ≤ y + 1) && decide (y + 1 ≤ 16)) = decide (y < 16)
  rw [decide_eq_true (show 1 ≤ y + 1 by omega), Bool.true_and]
  exact decide_eq_decide.mpr ⟨fun _ => by omega, fun _ => by omega⟩
theorem nt_ex {w : List Nat} (h : ntB w = true) : ∃ y v, y < 16 ∧ w = (y + 1) :: v := by
  match w, h with
  | [], h => simp [ntB] at h
  | 0 :: v, h => simp [ntB] at h
  | (y + 1) :: v, h =>
    rw [nt_cons] at h
    exact ⟨y, v, of_decide_eq_true h, rfl⟩
theorem nt_app {u : List Nat} (h : u ≠ []) (v : List Nat) : ntB (u ++ v) = ntB u := by
  match u, h with
  | [], h => exact absurd rfl h
  | a :: u, _ => rfl
def sU {α : Type} (f : α → Nat) : List α → Nat
  | [] => 0
  | a :: l => f a + sU f l
theorem sU_app {α : Type} (f : α → Nat) : ∀ (l m : List α), sU f (l ++ m) = sU f l + sU f m := by
  intro l
  induction l with
  | nil => intro m; simp [sU]
  | cons a l ih => intro m; simp only [List.cons_append, sU, ih]; omega
theorem sU_erase {α : Type} [BEq α] [LawfulBEq α] (f : α → Nat) : ∀ {l : List α} {a : α}, a ∈ l → sU f l = f a + sU f (l.erase a) := by
  intro l
  induction l with
  | nil => intro a h; cases h
  | cons b l ih =>
    intro a h
    by_cases e : b = a
    · subst e
      rw [List.erase_cons_head]
      rfl
    · rw [List.erase_cons_tail (by simpa using e)]
      rcases List.mem_cons.mp h with e' | e'
      · exact absurd e'.symm e
      · simp only [sU]
        rw [ih e']
        omega
theorem sU_sub {α : Type} [BEq α] [LawfulBEq α] (f : α → Nat) : ∀ {l m : List α}, l.Nodup → (∀ a ∈ l, a ∈ m) → sU f l ≤ sU f m := by
  intro l
  induction l with
  | nil => intro m _ _; exact Nat.zero_le _
  | cons a l ih =>
    intro m hn hs
    have hn' := List.nodup_cons.mp hn
    have ha := hs a (List.mem_cons_self ..)
    have h1 := ih (m := m.erase a) hn'.2 (fun x hx => (List.mem_erase_of_ne (fun (e : x = a) => hn'.1 (by rw [← e]; exact hx))).mpr (hs x (List.mem_cons_of_mem _ hx)))
    rw [sU_erase f ha]
    simp only [sU]
    omega
theorem sU_mono {α : Type} {f g : α → Nat} : ∀ {l : List α}, (∀ a ∈ l, f a ≤ g a) → sU f l ≤ sU g l := by
  intro l
  induction l with
  | nil => intro _; exact Nat.le_refl _
  | cons a l ih =>
    intro h
    have h1 := h a (List.mem_cons_self ..)
    have h2 := ih (fun b hb => h b (List.mem_cons_of_mem _ hb))
    simp only [sU]
    omega
theorem sU_le {α : Type} {f : α → Nat} {k : Nat} : ∀ {l : List α}, (∀ a ∈ l, f a ≤ k) → sU f l ≤ l.length * k := by
  intro l
  induction l with
  | nil => intro _; exact Nat.zero_le _
  | cons a l ih =>
    intro h
    have h1 := h a (List.mem_cons_self ..)
    have h2 := ih (fun b hb => h b (List.mem_cons_of_mem _ hb))
    simp only [sU, List.length_cons]
    rw [Nat.add_mul, Nat.one_mul]
    omega
theorem sU_map {α β : Type} (f : β → Nat) (g : α → β) : ∀ (l : List α), sU f (l.map g) = sU (fun a => f (g a)) l := by
  intro l
  induction l with
  | nil => rfl
  | cons a l ih => simp only [List.map_cons, sU, ih]
theorem sU_mem {α : Type} (f : α → Nat) : ∀ {l : List α} {a : α}, a ∈ l → f a ≤ sU f l := by
  intro l
  induction l with
  | nil => intro a h; cases h
  | cons b l ih =>
    intro a h
    simp only [sU]
    rcases List.mem_cons.mp h with e | e
    · rw [e]; omega
    · have := ih e; omega
abbrev WL : Type := List (List Nat)
/-- a whole run for one left side, never too large: n steps from S; N: the right sides of the other letters -/
def RX (N : Nat → WL) (a : Nat) : Nat → WL → Prop
  | 0, S => ∀ w ∈ S, ntB w = false
  | n + 1, S => ∃ y v S', y < 16 ∧ (y + 1) :: v ∈ S ∧ (∀ y' v', (y' + 1) :: v' ∈ S → y' < 16 → y ≤ y') ∧ (∀ w, w ∈ S' ↔ (w ∈ S ∧ w ≠ (y + 1) :: v) ∨ ∃ u, u ∈ N y ∧ w = u ++ v) ∧ S'.Nodup ∧ S'.length ≤ a ∧ (∀ w ∈ S', w.length ≤ 8) ∧ RX N a n S'
/-- what can be made by telling letters of M -/
def Dm (M : Nat → Prop) (N : Nat → WL) (S : WL) (w : List Nat) : Prop := ∀ P : List Nat → Prop, (∀ w ∈ S, P w) → (∀ y v u, M y → P ((y + 1) :: v) → u ∈ N y → P (u ++ v)) → P w
section DMS
variable {M : Nat → Prop} {N : Nat → WL} {S S' : WL} {a : Nat}
theorem Dm.base {w : List Nat} (h : w ∈ S) : Dm M N S w := fun _ hb _ => hb w h
theorem Dm.step {y : Nat} {v u : List Nat} (hM : M y) (h : Dm M N S ((y + 1) :: v)) (hu : u ∈ N y) : Dm M N S (u ++ v) := fun P hb hs => hs y v u hM (h P hb hs) hu
theorem Dm.sub {w : List Nat} (h : Dm M N S w) (hs : ∀ w ∈ S, Dm M N S' w) : Dm M N S' w := h (Dm M N S') hs (fun _ _ _ hM h1 hu => h1.step hM hu)
/-- a step loses nothing but what was told -/
theorem Dm.next {y : Nat} {v : List Nat} (hS : ∀ w, w ∈ S' ↔ (w ∈ S ∧ w ≠ (y + 1) :: v) ∨ ∃ u, u ∈ N y ∧ w = u ++ v) {w : List Nat} (h : Dm M N S w) : Dm M N S' w ∨ w = (y + 1) :: v := by
  refine h (fun w => Dm M N S' w ∨ w = (y + 1) :: v) (fun w hw => ?_) (fun y' v' u hM h1 hu => ?_)
  · by_cases e : w = (y + 1) :: v
    · exact Or.inr e
    · exact Or.inl (Dm.base ((hS w).mpr (Or.inl ⟨hw, e⟩)))
  · rcases h1 with h1 | h1
    · exact Or.inl (h1.step hM hu)
    · have e1 : y' = y := by have := congrArg List.head? h1; simpa using this
      have e2 : v' = v := by have := congrArg List.tail h1; simpa using this
      subst e1
      subst e2
      exact Or.inl (Dm.base ((hS _).mpr (Or.inr ⟨u, hu, rfl⟩)))
theorem Dm.none {w : List Nat} (hM : ∀ y, M y → y < 16) (hS : ∀ w ∈ S, ntB w = false) (h : Dm M N S w) : w ∈ S := by
  refine h (fun w => w ∈ S) (fun w hw => hw) (fun y v u hMy h1 hu => ?_)
  have := hS _ h1
  rw [nt_cons, decide_eq_true (hM y hMy)] at this
  cases this
/-- nothing that is ever made is too long -/
theorem RX_B : ∀ (n : Nat) (S : WL), RX N a n S → (∀ w ∈ S, w.length ≤ 8) → ∀ w, Dm (fun y => y < 16) N S w → w.length ≤ 8 := by
  intro n
  induction n with
  | zero => intro S h hl w hw; exact hl w (hw.none (fun y h => h) h)
  | succ n ih =>
    intro S h hl w hw
    obtain ⟨y, v, S', h1, h2, h3, h4, h5, h6, h7, h8⟩ := h
    rcases hw.next h4 with e | e
    · exact ih S' h8 h7 w e
    · rw [e]; exact hl _ h2
end DMS
section CLS
variable {N : Nat → WL} {a : Nat} {mB : Nat → Bool}
theorem Dm_min (hup : ∀ y, mB y = true → ∀ u, u ∈ N y → ∀ y' v', u = (y' + 1) :: v' → mB y' = true → y < y') (hne : ∀ y, ∀ u, u ∈ N y → u ≠ []) (hm16 : ∀ y, mB y = true → y < 16) {S : WL} {y0 : Nat} (hmin : ∀ y' v', (y' + 1) :: v' ∈ S → y' < 16 → y0 ≤ y') {w : List Nat} (h : Dm (fun y => mB y = true) N S w) : ∀ y' v', w = (y' + 1) :: v' → mB y' = true → y0 ≤ y' ∧ (y' = y0 → w ∈ S) := by
  refine h (fun w => ∀ y' v', w = (y' + 1) :: v' → mB y' = true → y0 ≤ y' ∧ (y' = y0 → w ∈ S)) (fun w hw y' v' e hb => ?_) (fun y v u hM h1 hu y' v' e hb => ?_)
  · exact ⟨hmin y' v' (e ▸ hw) (hm16 _ hb), fun _ => hw⟩
  · have h2 := (h1 y v rfl hM).1
    match u, hu, e with
    | [], hu, _ => exact absurd rfl (hne y _ hu)
    | b :: u', hu, e =>
      have eb : b = y' + 1 := by have := congrArg List.head? e; simpa using this
      have h3 := hup y hM _ hu y' u' (by rw [eb]) hb
      exact ⟨by omega, fun e' => by omega⟩
theorem RX_A (hup : ∀ y, mB y = true → ∀ u, u ∈ N y → ∀ y' v', u = (y' + 1) :: v' → mB y' = true → y < y') (hne : ∀ y, ∀ u, u ∈ N y → u ≠ []) (hm16 : ∀ y, mB y = true → y < 16) : ∀ (n : Nat) (S : WL), RX N a n S → S.length ≤ a → ∀ y, mB y = true → ∃ L : WL, L.length ≤ a ∧ ∀ v, Dm (fun y => mB y = true) N S ((y + 1) :: v) → (y + 1) :: v ∈ L := by
  intro n
  induction n with
  | zero =>
    intro S h _ y hy
    refine ⟨[], Nat.zero_le _, fun v hv => ?_⟩
    have := h _ (hv.none hm16 h)
    rw [nt_cons, decide_eq_true (hm16 y hy)] at this
    cases this
  | succ n ih =>
    intro S h hl y hy
    obtain ⟨y0, v, S', h1, h2, h3, h4, h5, h6, h7, h8⟩ := h
    by_cases hlt : y0 < y
    · obtain ⟨L, l1, l2⟩ := ih S' h8 h6 y hy
      refine ⟨L, l1, fun v' hv' => ?_⟩
      rcases hv'.next h4 with e | e
      · exact l2 v' e
      · have : y = y0 := by have := congrArg List.head? e; simpa using this
        omega
    · refine ⟨S, hl, fun v' hv' => ?_⟩
      obtain ⟨e1, e2⟩ := Dm_min hup hne hm16 h3 hv' y v' rfl hy
      exact e2 (by omega)
/-- weights by the first letter -/
def dF (d : Nat → Nat) (w : List Nat) : Nat := if ntB w then d (w.getD 0 0 - 1) else 0
theorem dF_cons (d : Nat → Nat) {y : Nat} (hy : y < 16) (v : List Nat) : dF d ((y + 1) :: v) = d y := by
  unfold dF
  rw [nt_cons, decide_eq_true hy, if_pos rfl]
  rfl
theorem dF_no (d : Nat → Nat) {w : List Nat} (h : ntB w = false) : dF d w = 0 := by unfold dF; rw [h]; rfl
theorem dF_app (d : Nat → Nat) {u : List Nat} (h : u ≠ []) (v : List Nat) : dF d (u ++ v) = dF d u := by
  match u, h with
  | [], h => exact absurd rfl h
  | a :: u, _ => rfl
def cwt (mB : Nat → Bool) (γ : Nat → Nat) (w : List Nat) : Nat := if mB (w.getD 0 0 - 1) then 1 + γ (w.getD 0 0 - 1) else 0
def Cov (mB : Nat → Bool) (N : Nat → WL) (γ : Nat → Nat) (S : WL) (k : Nat) : Prop := ∃ L : WL, (∀ y v, mB y = true → Dm (fun y => mB y = true) N S ((y + 1) :: v) → (y + 1) :: v ∈ L) ∧ sU (cwt mB γ) L ≤ k
def Lam (mB : Nat → Bool) (γ : Nat → Nat) (l : List Nat) : Nat := sU (fun y => if mB y then 1 + γ y else 0) l
theorem Cov_A {γ : Nat → Nat} (hup : ∀ y, mB y = true → ∀ u, u ∈ N y → ∀ y' v', u = (y' + 1) :: v' → mB y' = true → y < y') (hne : ∀ y, ∀ u, u ∈ N y → u ≠ []) (hm16 : ∀ y, mB y = true → y < 16) {n : Nat} {S : WL} (h : RX N a n S) (hl : S.length ≤ a) {E : WL} (hE : ∀ w ∈ E, w ∈ S) : Cov mB N γ E (a * Lam mB γ (List.range 16)) := by
  have key : ∀ l : List Nat, ∃ L : WL, (∀ y ∈ l, ∀ v, mB y = true → Dm (fun y => mB y = true) N E ((y + 1) :: v) → (y + 1) :: v ∈ L) ∧ sU (cwt mB γ) L ≤ a * Lam mB γ l := by
    intro l
    induction l with
    | nil => exact ⟨[], fun y hy => (by cases hy), Nat.zero_le _⟩
    | cons y l ih =>
      obtain ⟨L, l1, l2⟩ := ih
      have el : Lam mB γ (y :: l) = (if mB y then 1 + γ y else 0) + Lam mB γ l := rfl
      cases hy : mB y with
      | false =>
        refine ⟨L, fun y' hy' v hb hd => ?_, ?_⟩
        · rcases List.mem_cons.mp hy' with e | e
          · rw [e, hy] at hb; cases hb
          · exact l1 y' e v hb hd
        · rw [el, hy, if_neg (by decide), Nat.zero_add]
          exact l2
      | true =>
        obtain ⟨K, k1, k2⟩ := RX_A hup hne hm16 n S h hl y hy
        refine ⟨K.filter (fun w => decide (w.getD 0 0 = y + 1)) ++ L, fun y' hy' v hb hd => ?_, ?_⟩
        · by_cases e : y' = y
          · subst e
            refine List.mem_append_left _ (List.mem_filter.mpr ⟨k2 v (hd.sub (fun w hw => Dm.base (hE w hw))), ?_⟩)
            exact decide_eq_true rfl
          · rcases List.mem_cons.mp hy' with e' | e'
            · exact absurd e' e
            · exact List.mem_append_right _ (l1 y' e' v hb hd)
        · rw [sU_app, el, hy, if_pos rfl, Nat.mul_add]
          have h1 : sU (cwt mB γ) (K.filter (fun w => decide (w.getD 0 0 = y + 1))) ≤ (K.filter (fun w => decide (w.getD 0 0 = y + 1))).length * (1 + γ y) := sU_le (fun w hw => by
            have e : w.getD 0 0 = y + 1 := of_decide_eq_true (List.mem_filter.mp hw).2
            unfold cwt
            rw [e, Nat.add_sub_cancel, hy, if_pos rfl]
            exact Nat.le_refl _)
          have h2 : (K.filter (fun w => decide (w.getD 0 0 = y + 1))).length * (1 + γ y) ≤ a * (1 + γ y) := Nat.mul_le_mul_right _ (Nat.le_trans (List.length_filter_le ..) k1)
          omega
  obtain ⟨L, l1, l2⟩ := key (List.range 16)
  exact ⟨L, fun y v hb hd => l1 y (List.mem_range.mpr (hm16 y hb)) v hb hd, l2⟩
theorem RX_C {d γ κ : Nat → Nat} {Fr : Nat → Prop} (hup : ∀ y, mB y = true → ∀ u, u ∈ N y → ∀ y' v', u = (y' + 1) :: v' → mB y' = true → y < y') (hne : ∀ y, ∀ u, u ∈ N y → u ≠ []) (hm16 : ∀ y, mB y = true → y < 16)
    (hFr : ∀ y, Fr y → ∀ u, u ∈ N y → ∀ y' v', u = (y' + 1) :: v' → y' < 16 → Fr y')
    (hk : ∀ y, Fr y → y < 16 → (mB y = true ∧ sU (dF d) (N y) ≤ γ y) ∨ (mB y = false ∧ (∀ u, u ∈ N y → ntB u = false) ∧ 1 ≤ d y) ∨ (mB y = false ∧ 1 + κ y + sU (dF d) (N y) ≤ d y ∧ ∀ n v S, RX N a n S → S.length ≤ a → (∀ u, u ∈ N y → u ++ v ∈ S) → Cov mB N γ ((N y).map (fun u => u ++ v)) (κ y))) :
    ∀ (n : Nat) (S : WL) (k : Nat), RX N a n S → S.length ≤ a → (∀ y v, (y + 1) :: v ∈ S → y < 16 → Fr y) → Cov mB N γ S k → n ≤ sU (dF d) S + k := by
  intro n
  induction n with
  | zero => intro S k _ _ _ _; exact Nat.zero_le _
  | succ n ih =>
    intro S k h hl hS hC
    obtain ⟨y, v, S', h1, h2, h3, h4, h5, h6, h7, h8⟩ := h
    have hFy := hS y v h2 h1
    have hS' : ∀ y' v', (y' + 1) :: v' ∈ S' → y' < 16 → Fr y' := by
      intro y' v' hm hy'
      rcases (h4 _).mp hm with ⟨e, _⟩ | ⟨u, hu, e⟩
      · exact hS y' v' e hy'
      · match u, hu, e with
        | [], hu, _ => exact absurd rfl (hne y _ hu)
        | b :: u', hu, e =>
          have eb : b = y' + 1 := by have := congrArg List.head? e; simpa using this.symm
          exact hFr y hFy _ hu y' u' (by rw [eb]) hy'
    -- the weights
    have hsum : sU (dF d) S' + d y ≤ sU (dF d) S + sU (dF d) (N y) := by
      have e1 : sU (dF d) S' ≤ sU (dF d) (S.erase ((y + 1) :: v) ++ (N y).map (fun u => u ++ v)) := sU_sub _ h5 (fun w hw => by
        rcases (h4 w).mp hw with ⟨e, e'⟩ | ⟨u, hu, e⟩
        · exact List.mem_append_left _ ((List.mem_erase_of_ne e').mpr e)
        · exact List.mem_append_right _ (List.mem_map.mpr ⟨u, hu, e.symm⟩))
      have e2 := sU_erase (dF d) h2
      have e3 : sU (dF d) ((N y).map (fun u => u ++ v)) ≤ sU (dF d) (N y) := by
        rw [sU_map]
        exact sU_mono (fun u hu => Nat.le_of_eq (dF_app d (hne y u hu) v))
      rw [sU_app] at e1
      rw [dF_cons d h1] at e2
      omega
    rcases hk y hFy h1 with ⟨q1, q2⟩ | ⟨q1, q2, q3⟩ | ⟨q1, q2, q3⟩
    · -- a letter whose first symbols go up
      obtain ⟨L, l1, l2⟩ := hC
      have hp : (y + 1) :: v ∈ L := l1 y v q1 (Dm.base h2)
      have e1 := sU_erase (cwt mB γ) hp
      have e2 : cwt mB γ ((y + 1) :: v) = 1 + γ y := by
        unfold cwt
        show (if mB (y + 1 - 1) = true then 1 + γ (y + 1 - 1) else 0) = _
        rw [Nat.add_sub_cancel, if_pos q1]
      have hback : ∀ w, Dm (fun y => mB y = true) N S' w → Dm (fun y => mB y = true) N S w := fun w hw => hw.sub (fun w hw => by
        rcases (h4 w).mp hw with ⟨e, _⟩ | ⟨u, hu, e⟩
        · exact Dm.base e
        · rw [e]; exact Dm.step q1 (Dm.base h2) hu)
      have hnot : ∀ w, Dm (fun y => mB y = true) N S' w → w ≠ (y + 1) :: v := by
        intro w hw e
        have hmin : ∀ y' v', (y' + 1) :: v' ∈ S' → y' < 16 → (mB y' = true → y ≤ y') := by
          intro y' v' hm hy' hb
          rcases (h4 _).mp hm with ⟨e, _⟩ | ⟨u, hu, e⟩
          · exact h3 y' v' e hy'
          · match u, hu, e with
            | [], hu, _ => exact absurd rfl (hne y _ hu)
            | b :: u', hu, e =>
              have eb : b = y' + 1 := by have := congrArg List.head? e; simpa using this.symm
              exact Nat.le_of_lt (hup y q1 _ hu y' u' (by rw [eb]) hb)
        have := hw (fun w => ∀ y' v', w = (y' + 1) :: v' → mB y' = true → y ≤ y' ∧ (y' = y → w ∈ S')) (fun w hw y' v' e hb => ⟨hmin y' v' (e ▸ hw) (hm16 _ hb) hb, fun _ => hw⟩) (fun y1 v1 u hM hh hu y' v' e hb => by
          have g1 := (hh y1 v1 rfl hM).1
          match u, hu, e with
          | [], hu, _ => exact absurd rfl (hne y1 _ hu)
          | b :: u', hu, e =>
            have eb : b = y' + 1 := by have := congrArg List.head? e; simpa using this
            have g2 := hup y1 hM _ hu y' u' (by rw [eb]) hb
            exact ⟨by omega, fun e' => by omega⟩) y v e q1
        have hin := this.2 rfl
        rw [e] at hin
        rcases (h4 _).mp hin with ⟨_, e'⟩ | ⟨u, hu, e'⟩
        · exact e' rfl
        · match u, hu, e' with
          | [], hu, _ => exact absurd rfl (hne y _ hu)
          | b :: u', hu, e' =>
            have eb : b = y + 1 := by have := congrArg List.head? e'; simpa using this.symm
            have := hup y q1 _ hu y u' (by rw [eb]) q1
            omega
      have hI := ih S' (k - (1 + γ y)) h8 h6 hS' ⟨L.erase ((y + 1) :: v), fun y' v' hb hd => (List.mem_erase_of_ne (hnot _ hd)).mpr (l1 y' v' hb (hback _ hd)), by omega⟩
      omega
    · -- a flat letter
      have e0 : sU (dF d) (N y) = 0 := by
        have := sU_mono (f := dF d) (g := fun _ => 0) (l := N y) (fun u hu => Nat.le_of_eq (dF_no d (q2 u hu)))
        have z : ∀ l : WL, sU (fun _ : List Nat => 0) l = 0 := by
          intro l
          induction l with
          | nil => rfl
          | cons b l ih => simp only [sU, ih]
        rw [z] at this
        omega
      obtain ⟨L, l1, l2⟩ := hC
      have hback : ∀ w, Dm (fun y => mB y = true) N S' w → Dm (fun y => mB y = true) N S w ∨ ntB w = false := fun w hw => by
        refine hw (fun w => Dm (fun y => mB y = true) N S w ∨ ntB w = false) (fun w hw => ?_) (fun y1 v1 u hM hh hu => ?_)
        · rcases (h4 w).mp hw with ⟨e, _⟩ | ⟨u, hu, e⟩
          · exact Or.inl (Dm.base e)
          · right
            rw [e, nt_app (hne y u hu)]
            exact q2 u hu
        · rcases hh with hh | hh
          · exact Or.inl (hh.step hM hu)
          · rw [nt_cons, decide_eq_true (hm16 _ hM)] at hh
            cases hh
      have hI := ih S' k h8 h6 hS' ⟨L, fun y' v' hb hd => (by
        rcases hback _ hd with e | e
        · exact l1 y' v' hb e
        · rw [nt_cons, decide_eq_true (hm16 _ hb)] at e
          cases e), l2⟩
      omega
    · -- a letter made by turning
      obtain ⟨L, l1, l2⟩ := hC
      obtain ⟨K, k1, k2⟩ := q3 n v S' h8 h6 (fun u hu => (h4 _).mpr (Or.inr ⟨u, hu, rfl⟩))
      have hback : ∀ w, Dm (fun y => mB y = true) N S' w → Dm (fun y => mB y = true) N S w ∨ Dm (fun y => mB y = true) N ((N y).map (fun u => u ++ v)) w := fun w hw => by
        refine hw (fun w => Dm (fun y => mB y = true) N S w ∨ Dm (fun y => mB y = true) N ((N y).map (fun u => u ++ v)) w) (fun w hw => ?_) (fun y1 v1 u hM hh hu => ?_)
        · rcases (h4 w).mp hw with ⟨e, _⟩ | ⟨u, hu, e⟩
          · exact Or.inl (Dm.base e)
          · exact Or.inr (Dm.base (List.mem_map.mpr ⟨u, hu, e.symm⟩))
        · rcases hh with hh | hh
          · exact Or.inl (hh.step hM hu)
          · exact Or.inr (hh.step hM hu)
      have hI := ih S' (k + κ y) h8 h6 hS' ⟨L ++ K, fun y' v' hb hd => (by
        rcases hback _ hd with e | e
        · exact List.mem_append_left _ (l1 y' v' hb e)
        · exact List.mem_append_right _ (k1 y' v' hb e)), by rw [sU_app]; omega⟩
      omega
end CLS
