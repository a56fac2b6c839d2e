/-! toGreibach: the invariant through all letters -/
theorem lfS_bt {G : List PR} (hG : Oks G) {x : Nat} (hx : x < 16) : bt (lfS G) x = true ↔ ∃ w, (x, w) ∈ G := by
  unfold lfS
  rw [lefts_bt G _ x hx hG, show bt (nI 0) x = false from b_0 x, Bool.false_or, List.any_eq_true]
  constructor
  · rintro ⟨q, hq, e⟩
    have e : q.1 = x := of_decide_eq_true e
    exact ⟨q.2, by rw [← e]; exact hq⟩
  · rintro ⟨w, hw⟩
    exact ⟨(x, w), hw, decide_eq_true rfl⟩
theorem LI_init {G : List PR} (hG : Gok G) (hne : G.any emB = false) : LI G (lfS G) 0 0 [] G := by
  have hn : ∀ q ∈ G, q.2 ≠ [] := by
    intro q hq e
    have : G.any emB = true := List.any_eq_true.mpr ⟨q, hq, by unfold emB; rw [e]; rfl⟩
    rw [hne] at this
    cases this
  refine ⟨hn, fun q hq => Or.inl ((lfS_bt hG.2.1 (hG.2.1 q hq).1).mpr ⟨q.2, hq⟩), fun _ _ _ h => (by cases h), fun x _ hx hb => (lfS_bt hG.2.1 hx).mp hb, fun z hz => (by cases hz), List.nodup_nil, trivial, fun x y v _ _ _ => ⟨fun h => (by cases h), fun h => (by omega), fun _ => Or.inl (Nat.zero_le _)⟩, fun z y v _ hz => (by cases hz), fun z w _ hz => (by cases hz), fun x w y hm _ hy he => ?_⟩
  have e : er [] w = w := by
    unfold er
    exact List.filter_eq_self.mpr (fun a _ => by simp)
  rw [e] at he
  rw [he] at hm
  exact Ur_in hG.2.1 (hG.2.1 _ hm).1 hy hm
theorem LI_tells {G0 : List PR} {m : Int32} {c : Nat} {Zs : List Nat} {S0 : List PR × Bool} (hc16 : c < 16) (hbc : bt m c = true) (hG : Gok S0.1) (h : LI G0 m c 0 Zs S0.1) (h0 : S0.2 = false) : ∀ k, k ≤ c → ((List.range k).foldl (trI m c) S0).2 = false → LI G0 m c k Zs ((List.range k).foldl (trI m c) S0).1 := by
  intro k
  induction k with
  | zero => intro _ _; exact h
  | succ k ih =>
    intro hk hf
    rw [List.range_succ, List.foldl_append, List.foldl_cons, List.foldl_nil] at hf ⊢
    have hGk : Gok ((List.range k).foldl (trI m c) S0).1 := fold_inv (P := fun S : List PR × Bool => Gok S.1) (List.range k) S0 (fun S y _ h => trI_ok h) hG
    generalize hT : (List.range k).foldl (trI m c) S0 = T at hf ih hGk ⊢
    have hTf : T.2 = false := by
      cases hT2 : T.2 with
      | false => rfl
      | true => rw [trI_fl hT2] at hf; cases hf
    have hT3 : T = (T.1, false) := by rw [← hTf]
    have hL := ih (by omega) hTf
    unfold trI at hf ⊢
    cases hb : bt m k with
    | false =>
      rw [if_neg (by decide)]
      exact hL.skipj hb
    | true =>
      rw [hb, if_pos rfl] at hf
      rw [if_pos rfl]
      rw [hT3] at hf ⊢
      exact hL.tell hGk hc16 (by omega) hbc hf
theorem lrF_LI {G : List PR} (hG : Gok G) (hne : G.any emB = false) (hcy : cyB G = false) (hf : (lrF G).2 = false) : ∃ Zs, LI G (lfS G) 16 0 Zs (lrF G).1 := by
  have key : ∀ n, n ≤ 16 → ((List.range n).foldl (lrI (lfS G)) (G, false)).2 = false → ∃ Zs, LI G (lfS G) n 0 Zs ((List.range n).foldl (lrI (lfS G)) (G, false)).1 := by
    intro n
    induction n with
    | zero => intro _ _; exact ⟨[], LI_init hG hne⟩
    | succ n ih =>
      intro hn hf
      rw [List.range_succ, List.foldl_append, List.foldl_cons, List.foldl_nil] at hf ⊢
      have hGk : Gok ((List.range n).foldl (lrI (lfS G)) (G, false)).1 := fold_inv (P := fun S : List PR × Bool => Gok S.1) (List.range n) (G, false) (fun S y _ h => lrI_ok h) hG
      generalize hT : (List.range n).foldl (lrI (lfS G)) (G, false) = T at hf ih hGk ⊢
      have hTf : T.2 = false := by
        cases hT2 : T.2 with
        | false => rfl
        | true => rw [lrI_fl hT2] at hf; cases hf
      obtain ⟨Zs, hL⟩ := ih (by omega) hTf
      unfold lrI at hf ⊢
      cases hb : bt (lfS G) n with
      | false =>
        rw [if_neg (by decide)]
        exact ⟨Zs, hL.skipc hb⟩
      | true =>
        rw [hb, if_pos rfl] at hf
        rw [if_pos rfl]
        unfold trF at hf ⊢
        have hGu : Gok ((List.range n).foldl (trI (lfS G) n) T).1 := fold_inv (P := fun S : List PR × Bool => Gok S.1) (List.range n) T (fun S y _ h => trI_ok h) hGk
        have hUf : ((List.range n).foldl (trI (lfS G) n) T).2 = false := by
          cases hU : ((List.range n).foldl (trI (lfS G) n) T).2 with
          | false => rfl
          | true => rw [tuF_fl hU, hU] at hf; cases hf
        have hLU := LI_tells (by omega) hb hGk hL hTf n (Nat.le_refl _) hUf
        generalize (List.range n).foldl (trI (lfS G) n) T = U at hf hGu hUf hLU ⊢
        have hU3 : U = (U.1, false) := by rw [← hUf]
        rw [hU3] at hf ⊢
        exact hLU.turn hGu (fun x hx => Ur_no hcy hx) (by omega) hb hf
  exact key 16 (Nat.le_refl _) hf
/-- those made before -/
def old : List Nat → Nat → List Nat
  | [], _ => []
  | z :: r, x => if x = z then r else old r x
theorem old_mem : ∀ {Zs : List Nat} {x y : Nat}, y ∈ old Zs x → y ∈ Zs := by
  intro Zs
  induction Zs with
  | nil => intro x y h; cases h
  | cons z r ih =>
    intro x y h
    unfold old at h
    split at h
    · exact List.mem_cons_of_mem _ h
    · exact List.mem_cons_of_mem _ (ih h)
theorem old_len : ∀ {Zs : List Nat} {x y : Nat}, Zs.Nodup → y ∈ old Zs x → (old Zs y).length < (old Zs x).length := by
  intro Zs
  induction Zs with
  | nil => intro x y _ h; cases h
  | cons z r ih =>
    intro x y hn h
    have hn' := List.nodup_cons.mp hn
    unfold old at h ⊢
    by_cases hx : x = z
    · rw [if_pos hx] at h ⊢
      have hy : y ≠ z := fun e => hn'.1 (e ▸ h)
      rw [if_neg hy]
      have : ∀ {l : List Nat} {t : Nat}, t ∈ l → (old l t).length < l.length := by
        intro l
        induction l with
        | nil => intro t ht; cases ht
        | cons a l ih2 =>
          intro t ht
          unfold old
          split
          · simp
          · rename_i hne
            rcases List.mem_cons.mp ht with e | e
            · exact absurd e hne
            · have := ih2 e
              rw [List.length_cons]
              omega
      exact this h
    · rw [if_neg hx] at h ⊢
      have hy : y ≠ z := fun e => hn'.1 (e ▸ old_mem h)
      rw [if_neg hy]
      exact ih hn'.2 h
theorem old_lt : ∀ {Zs : List Nat} {x : Nat}, x ∈ Zs → (old Zs x).length < Zs.length := by
  intro l
  induction l with
  | nil => intro t ht; cases ht
  | cons a l ih2 =>
    intro t ht
    unfold old
    split
    · simp
    · rename_i hne
      rcases List.mem_cons.mp ht with e | e
      · exact absurd e hne
      · have := ih2 e
        rw [List.length_cons]
        omega
theorem old_tr : ∀ {Zs : List Nat} {x y t : Nat}, Zs.Nodup → y ∈ old Zs x → t ∈ old Zs y → t ∈ old Zs x := by
  intro Zs
  induction Zs with
  | nil => intro x y t _ h; cases h
  | cons z r ih =>
    intro x y t hn h h2
    have hn' := List.nodup_cons.mp hn
    unfold old at h h2 ⊢
    by_cases hx : x = z
    · rw [if_pos hx] at h ⊢
      have hy : y ≠ z := fun e => hn'.1 (e ▸ h)
      rw [if_neg hy] at h2
      exact old_mem h2
    · rw [if_neg hx] at h ⊢
      have hy : y ≠ z := fun e => hn'.1 (e ▸ old_mem h)
      rw [if_neg hy] at h2
      exact ih hn'.2 h h2
theorem OrdZ_old {G : List PR} {A : List Nat} : ∀ {l : List Nat}, OrdZ G A l → ∀ {z y : Nat} {v : List Nat}, z ∈ l → (z, (y + 1) :: v) ∈ G → y ∈ A → y ∈ old l z := by
  intro l
  induction l with
  | nil => intro _ z y v h; cases h
  | cons a r ih =>
    intro ho z y v hz hm hy
    unfold old
    split
    · rename_i e
      rw [e] at hm
      exact ho.1 y v hm hy
    · rename_i hne
      rcases List.mem_cons.mp hz with e | e
      · exact absurd e hne
      · exact ih ho.2 e hm hy
/-- what is left when no letter is left to be treated -/
def HZ (Zs : List Nat) (G : List PR) : Prop :=
  (∀ q ∈ G, q.2 ≠ []) ∧ Zs.Nodup ∧ (∀ z ∈ Zs, z < 16) ∧
  (∀ z y v, z ∈ Zs → (z, (y + 1) :: v) ∈ G → y ∈ Zs → y ∈ old Zs z) ∧
  (∀ x y v, (x, (y + 1) :: v) ∈ G → x ∉ Zs → y < 16 → y ∉ Zs ∧ (x < y ∨ ∀ w, (y, w) ∉ G)) ∧
  (∀ z y v, (z, (y + 1) :: v) ∈ G → z ∈ Zs → y ∈ Zs → v ≠ []) ∧
  ∀ z w, (z, w) ∈ G → z ∈ Zs → (∃ w', w = w' ++ [z + 1] ∧ w' ≠ [] ∧ (z, w') ∈ G) ∨ (z, w ++ [z + 1]) ∈ G
theorem lrF_HZ {G : List PR} (hG : Gok G) (hne : G.any emB = false) (hcy : cyB G = false) (hf : (lrF G).2 = false) : ∃ Zs, HZ Zs (lrF G).1 := by
  obtain ⟨Zs, h1, h2, h3, h4, h5, h6, h7, h8, h9, h10, h11⟩ := lrF_LI hG hne hcy hf
  have hok := (lrF_ok hG).2.1
  refine ⟨Zs, h1, h6, fun z hz => (h5 z hz).1, fun z y v hz hm hy => OrdZ_old h7 hz hm hy, fun x y v hm hx hy => ?_, h9, h10⟩
  obtain ⟨e1, e2, _⟩ := h8 x y v hm hx hy
  refine ⟨e1, ?_⟩
  rcases e2 (hok _ hm).1 with e | e
  · exact Or.inl e
  · right
    intro w hw
    rcases h2 _ hw with e' | e'
    · have e' : bt (lfS G) y = true := e'
      rw [e] at e'; cases e'
    · exact e1 e'
