/-! toGreibach: the letters made by turning (Zs, the newest first) -/
def er (Zs : List Nat) (w : List Nat) : List Nat := w.filter (fun a => decide (a - 1 ∉ Zs))
def OrdZ (G : List PR) (A : List Nat) : List Nat → Prop
  | [] => True
  | z :: r => (∀ y v, (z, (y + 1) :: v) ∈ G → y ∈ A → y ∈ r) ∧ OrdZ G A r
theorem OrdZ_mono {G G' : List PR} {A A' : List Nat} : ∀ (l : List Nat), (∀ z ∈ l, ∀ y v, (z, (y + 1) :: v) ∈ G' → y ∈ A' → (z, (y + 1) :: v) ∈ G ∧ y ∈ A) → OrdZ G A l → OrdZ G' A' l := by
  intro l
  induction l with
  | nil => intro _ _; trivial
  | cons z r ih =>
    intro h ho
    refine ⟨fun y v h1 h2 => ?_, ih (fun z' hz' => h z' (List.mem_cons_of_mem _ hz')) ho.2⟩
    obtain ⟨h3, h4⟩ := h z (List.mem_cons_self ..) y v h1 h2
    exact ho.1 y v h3 h4
def LI (G0 : List PR) (m : Int32) (c j : Nat) (Zs : List Nat) (G : List PR) : Prop :=
  (∀ q ∈ G, q.2 ≠ []) ∧
  (∀ q ∈ G, bt m q.1 = true ∨ q.1 ∈ Zs) ∧
  (∀ x, c ≤ x → bt m x = true → x ∉ Zs) ∧
  (∀ x, c < x → x < 16 → bt m x = true → ∃ w, (x, w) ∈ G) ∧
  (∀ z ∈ Zs, z < 16 ∧ ∃ w, (z, w) ∈ G) ∧ Zs.Nodup ∧ OrdZ G Zs Zs ∧
  (∀ x y v, (x, (y + 1) :: v) ∈ G → x ∉ Zs → y < 16 → y ∉ Zs ∧ (x < c → x < y ∨ bt m y = false) ∧ (x = c → j ≤ y ∨ bt m y = false)) ∧
  (∀ z y v, (z, (y + 1) :: v) ∈ G → z ∈ Zs → y ∈ Zs → v ≠ []) ∧
  (∀ z w, (z, w) ∈ G → z ∈ Zs → (∃ w', w = w' ++ [z + 1] ∧ w' ≠ [] ∧ (z, w') ∈ G) ∨ (z, w ++ [z + 1]) ∈ G) ∧
  ∀ x w y, (x, w) ∈ G → x ∉ Zs → y < 16 → er Zs w = [y + 1] → Ur G0 x y
section LIS
variable {G0 G : List PR} {m : Int32} {c j : Nat} {Zs : List Nat}
theorem LI.skipj (h : LI G0 m c j Zs G) (hj : bt m j = false) : LI G0 m c (j + 1) Zs G := by
  obtain ⟨h1, h2, h3, h4, h5, h6, h7, h8, h9, h10, h11⟩ := h
  refine ⟨h1, h2, h3, h4, h5, h6, h7, fun x y v a b d => ?_, h9, h10, h11⟩
  obtain ⟨e1, e2, e3⟩ := h8 x y v a b d
  refine ⟨e1, e2, fun hx => ?_⟩
  rcases e3 hx with e | e
  · by_cases hy : y = j
    · right; rw [hy]; exact hj
    · left; omega
  · exact Or.inr e
theorem LI.skipc (h : LI G0 m c 0 Zs G) (hc : bt m c = false) : LI G0 m (c + 1) 0 Zs G := by
  obtain ⟨h1, h2, h3, h4, h5, h6, h7, h8, h9, h10, h11⟩ := h
  refine ⟨h1, h2, fun x a => h3 x (by omega), fun x a => h4 x (by omega), h5, h6, h7, fun x y v a b d => ?_, h9, h10, h11⟩
  obtain ⟨e1, e2, e3⟩ := h8 x y v a b d
  refine ⟨e1, fun hx => ?_, fun _ => Or.inl (Nat.zero_le _)⟩
  by_cases hxc : x = c
  · exfalso
    rcases h2 _ a with e | e
    · have e : bt m x = true := e
      rw [hxc, hc] at e; cases e
    · exact b e
  · exact e2 (by omega)
/-- the first symbol of a right side whose left side isn't made by turning isn't either -/
theorem LI.front (h : LI G0 m c j Zs G) (hG : Oks G) {x a : Nat} {v : List Nat} (hm : (x, a :: v) ∈ G) (hx : x ∉ Zs) : a - 1 ∉ Zs := by
  obtain ⟨h1, h2, h3, h4, h5, h6, h7, h8, h9, h10, h11⟩ := h
  have ha := (hG _ hm).2.2 a (List.mem_cons_self ..)
  intro hz
  have hlt := (h5 _ hz).1
  have e : a - 1 + 1 = a := by omega
  rw [← e] at hm
  exact (h8 x (a - 1) v hm hx hlt).1 hz
theorem er_cons (Zs : List Nat) (a : Nat) (v : List Nat) : er Zs (a :: v) = if a - 1 ∈ Zs then er Zs v else a :: er Zs v := by
  unfold er
  rw [List.filter_cons]
  by_cases h : a - 1 ∈ Zs <;> simp [h]
theorem er_app (Zs : List Nat) (u v : List Nat) : er Zs (u ++ v) = er Zs u ++ er Zs v := List.filter_append ..
theorem LI.tell (h : LI G0 m c j Zs G) (hG : Gok G) (hc16 : c < 16) (hjc : j < c) (hbc : bt m c = true) (hf : (tlF c j (G, false)).2 = false) : LI G0 m c (j + 1) Zs (tlF c j (G, false)).1 := by
  have hLI := h
  obtain ⟨h1, h2, h3, h4, h5, h6, h7, h8, h9, h10, h11⟩ := h
  have hmem := tlF_mem hG hf
  generalize (tlF c j (G, false)).1 = G' at hmem ⊢
  have hcZ : c ∉ Zs := h3 c (Nat.le_refl _) hbc
  have keep : ∀ x w, x ≠ c → ((x, w) ∈ G' ↔ (x, w) ∈ G) := by
    intro x w hx
    rw [hmem]
    constructor
    · rintro (⟨a, _⟩ | ⟨v, u, _, _, e⟩)
      · exact a
      · exact absurd (congrArg Prod.fst e) hx
    · intro a
      refine Or.inl ⟨a, ?_⟩
      cases hb : bgB (x, w) c j with
      | false => rfl
      | true => exact absurd (bgB_iff.mp hb).1 hx
  have zc : ∀ z, z ∈ Zs → z ≠ c := fun z hz e => hcZ (e ▸ hz)
  refine ⟨?_, ?_, h3, ?_, ?_, h6, ?_, ?_, ?_, ?_, ?_⟩
  · intro q hq
    rcases (hmem q).mp hq with ⟨a, _⟩ | ⟨v, u, _, b, rfl⟩
    · exact h1 q a
    · have := h1 _ b
      intro e
      exact this (List.append_eq_nil_iff.mp e).1
  · intro q hq
    rcases (hmem q).mp hq with ⟨a, _⟩ | ⟨v, u, _, b, rfl⟩
    · exact h2 q a
    · exact Or.inl hbc
  · intro x a b d
    obtain ⟨w, hw⟩ := h4 x a b d
    exact ⟨w, (keep x w (by omega)).mpr hw⟩
  · intro z hz
    obtain ⟨a, w, hw⟩ := h5 z hz
    exact ⟨a, w, (keep z w (zc z hz)).mpr hw⟩
  · exact OrdZ_mono Zs (fun z hz y v a b => ⟨(keep z _ (zc z hz)).mp a, b⟩) h7
  · intro x y v a b d
    rcases (hmem _).mp a with ⟨e, hb⟩ | ⟨v', u, k1, k2, e⟩
    · obtain ⟨e1, e2, e3⟩ := h8 x y v e b d
      refine ⟨e1, e2, fun hx => ?_⟩
      rcases e3 hx with e4 | e4
      · left
        have : y ≠ j := fun ey => by
          have : bgB (x, (y + 1) :: v) c j = true := bg_cons.mpr ⟨v, by rw [hx, ey]⟩
          rw [hb] at this
          cases this
        omega
      · exact Or.inr e4
    · have ex : x = c := congrArg Prod.fst e
      have ew : (y + 1) :: v = u ++ v' := congrArg Prod.snd e
      obtain ⟨jz, _, _⟩ := h8 c j v' k1 hcZ (by omega)
      match u, k2, ew with
      | [], k2, _ => exact absurd rfl (h1 _ k2)
      | a' :: u', k2, ew =>
        have ea : y + 1 = a' := by simpa using congrArg List.head? ew
        rw [← ea] at k2
        obtain ⟨e1, e2, _⟩ := h8 j y u' k2 jz d
        refine ⟨e1, fun hx => by omega, fun _ => ?_⟩
        rcases e2 hjc with e4 | e4
        · exact Or.inl e4
        · exact Or.inr e4
  · intro z y v a b d
    exact h9 z y v ((keep z _ (zc z b)).mp a) b d
  · intro z w a b
    rcases h10 z w ((keep z _ (zc z b)).mp a) b with ⟨w', e1, e2, e3⟩ | e
    · exact Or.inl ⟨w', e1, e2, (keep z _ (zc z b)).mpr e3⟩
    · exact Or.inr ((keep z _ (zc z b)).mpr e)
  · intro x w y a b d e
    rcases (hmem _).mp a with ⟨a', _⟩ | ⟨v, u, k1, k2, e'⟩
    · exact h11 x w y a' b d e
    · have ex : x = c := congrArg Prod.fst e'
      have ew : w = u ++ v := congrArg Prod.snd e'
      obtain ⟨jz, _, _⟩ := h8 c j v k1 hcZ (by omega)
      match u, k2, ew with
      | [], k2, _ => exact absurd rfl (h1 _ k2)
      | a' :: u', k2, ew =>
        have hfr := hLI.front hG.2.1 k2 jz
        rw [ew, er_app, er_cons, if_neg hfr] at e
        have e3 : a' = y + 1 ∧ er Zs u' = [] ∧ er Zs v = [] := by
          simpa [and_assoc] using e
        have u1 : Ur G0 c j := h11 c _ j k1 hcZ (by omega) (by rw [er_cons, Nat.add_sub_cancel, if_neg jz, e3.2.2])
        have u2 : Ur G0 j y := h11 j _ y k2 jz d (by rw [er_cons, if_neg hfr, e3.2.1, e3.1])
        rw [ex]
        exact Ur_tr hc16 (by omega) u1 u2
theorem er_new {z : Nat} {Zs w : List Nat} (h1 : ∀ a ∈ w, 1 ≤ a) (h : z + 1 ∉ w) : er (z :: Zs) w = er Zs w := by
  unfold er
  refine List.filter_congr (fun a ha => ?_)
  have : a - 1 ≠ z := fun e => h (by have := h1 a ha; rw [← e, show a - 1 + 1 = a by omega]; exact ha)
  simp [this]
theorem LI.turn (h : LI G0 m c c Zs G) (hG : Gok G) (hno : ∀ x, x < 16 → ¬ Ur G0 x x) (hc16 : c < 16) (hbc : bt m c = true) (hf : (tuF c (G, false)).2 = false) : ∃ Zs', LI G0 m (c + 1) 0 Zs' (tuF c (G, false)).1 := by
  have hLI := h
  obtain ⟨h1, h2, h3, h4, h5, h6, h7, h8, h9, h10, h11⟩ := h
  have hcZ : c ∉ Zs := h3 c (Nat.le_refl _) hbc
  have zc : ∀ z, z ∈ Zs → z ≠ c := fun z hz e => hcZ (e ▸ hz)
  rcases tuF_mem hc16 hG hf with ⟨hn, hmem⟩ | ⟨z, hz, ⟨v0, hv0, hv1⟩, hmem⟩
  · generalize (tuF c (G, false)).1 = G' at hmem ⊢
    have keep : ∀ x w, x ≠ c → (x, w) ∈ G → (x, w) ∈ G' := fun x w hx a => (hmem _).mpr ⟨a, fun e => hx (congrArg Prod.fst e)⟩
    refine ⟨Zs, fun q hq => h1 q ((hmem q).mp hq).1, fun q hq => h2 q ((hmem q).mp hq).1, fun x a => h3 x (by omega), ?_, ?_, h6, ?_, ?_, ?_, ?_, ?_⟩
    · intro x a b d
      obtain ⟨w, hw⟩ := h4 x (by omega) b d
      exact ⟨w, keep x w (by omega) hw⟩
    · intro z hz
      obtain ⟨a, w, hw⟩ := h5 z hz
      exact ⟨a, w, keep z w (zc z hz) hw⟩
    · exact OrdZ_mono Zs (fun z hz y v a b => ⟨((hmem _).mp a).1, b⟩) h7
    · intro x y v a b d
      obtain ⟨a1, a2⟩ := (hmem _).mp a
      obtain ⟨e1, e2, e3⟩ := h8 x y v a1 b d
      refine ⟨e1, fun hx => ?_, fun _ => Or.inl (Nat.zero_le _)⟩
      by_cases hxc : x = c
      · rcases e3 hxc with e4 | e4
        · left
          have : y ≠ c := fun ey => by
            subst hxc
            rw [ey] at a1 a2
            have := hn v a1
            exact a2 (by rw [this])
          omega
        · exact Or.inr e4
      · exact e2 (by omega)
    · intro z y v a b d
      exact h9 z y v ((hmem _).mp a).1 b d
    · intro z w a b
      rcases h10 z w ((hmem _).mp a).1 b with ⟨w', e1, e2, e3⟩ | e
      · exact Or.inl ⟨w', e1, e2, keep z _ (zc z b) e3⟩
      · exact Or.inr (keep z _ (zc z b) e)
    · intro x w y a b d e
      exact h11 x w y ((hmem _).mp a).1 b d e
  · generalize (tuF c (G, false)).1 = G' at hmem ⊢
    have hfree := fre_free hz
    have z16 := fre_lt hz
    have nu : ∀ x w, (x, w) ∈ G → x ≠ z ∧ z + 1 ∉ w := by
      intro x w hm
      constructor
      · intro e
        have : uB G z = true := uB_iff.mpr (Or.inr ⟨(x, w), hm, Or.inl e⟩)
        rw [hfree] at this; cases this
      · intro e
        have : uB G z = true := uB_iff.mpr (Or.inr ⟨(x, w), hm, Or.inr e⟩)
        rw [hfree] at this; cases this
    have zZ : z ∉ Zs := fun hz' => by
      obtain ⟨_, w, hw⟩ := h5 z hz'
      exact (nu _ _ hw).1 rfl
    have zcn : z ≠ c := fun e => (nu _ _ hv1).1 e.symm
    have keep : ∀ x w, x ≠ c → (x, w) ∈ G → (x, w) ∈ G' := fun x w hx a => (hmem _).mpr (Or.inl ⟨a, hx⟩)
    have back : ∀ x w, x ≠ c → x ≠ z → (x, w) ∈ G' → (x, w) ∈ G := by
      intro x w hx hxz a
      rcases (hmem _).mp a with ⟨b, _⟩ | ⟨w', _, _, e | e⟩ | ⟨v, _, _, e | e⟩
      · exact b
      · exact absurd (congrArg Prod.fst e) hx
      · exact absurd (congrArg Prod.fst e) hx
      · exact absurd (congrArg Prod.fst e) hxz
      · exact absurd (congrArg Prod.fst e) hxz
    have zback : ∀ w, (z, w) ∈ G' → ∃ v, v ≠ [] ∧ (c, (c + 1) :: v) ∈ G ∧ (w = v ∨ w = v ++ [z + 1]) := by
      intro w a
      rcases (hmem _).mp a with ⟨b, _⟩ | ⟨w', _, _, e | e⟩ | ⟨v, e1, e2, e | e⟩
      · exact absurd rfl (nu _ _ b).1
      · exact absurd (congrArg Prod.fst e) zcn
      · exact absurd (congrArg Prod.fst e) zcn
      · exact ⟨v, e1, e2, Or.inl (congrArg Prod.snd e)⟩
      · exact ⟨v, e1, e2, Or.inr (congrArg Prod.snd e)⟩
    have zin : ∀ v, v ≠ [] → (c, (c + 1) :: v) ∈ G → (z, v) ∈ G' ∧ (z, v ++ [z + 1]) ∈ G' := fun v a b => ⟨(hmem _).mpr (Or.inr (Or.inr ⟨v, a, b, Or.inl rfl⟩)), (hmem _).mpr (Or.inr (Or.inr ⟨v, a, b, Or.inr rfl⟩))⟩
    have zfront : ∀ y v', (z, (y + 1) :: v') ∈ G' → ∃ v, (c, (c + 1) :: (y + 1) :: v) ∈ G ∧ y ≠ z ∧ (v' = v ∨ v' = v ++ [z + 1]) := by
      intro y v' a
      obtain ⟨v, e1, e2, e3⟩ := zback _ a
      match v, e1, e2, e3 with
      | [], e1, _, _ => exact absurd rfl e1
      | b :: v, _, e2, e3 =>
        have eb : b = y + 1 := by
          rcases e3 with e | e
          · simpa using (congrArg List.head? e).symm
          · simpa using (congrArg List.head? e).symm
        rw [eb] at e2 e3
        refine ⟨v, e2, fun ey => (nu _ _ e2).2 (by rw [ey]; simp), ?_⟩
        rcases e3 with e | e
        · left; simpa using e
        · right; simpa using e
    refine ⟨z :: Zs, ?_, ?_, ?_, ?_, ?_, List.nodup_cons.mpr ⟨zZ, h6⟩, ⟨?_, ?_⟩, ?_, ?_, ?_, ?_⟩
    · intro q hq
      rcases (hmem _).mp hq with ⟨b, _⟩ | ⟨w', b, _, e | e⟩ | ⟨v, e1, _, e | e⟩
      · exact h1 q b
      · rw [e]; exact h1 _ b
      · rw [e]; simp
      · rw [e]; exact e1
      · rw [e]; simp
    · intro q hq
      rcases (hmem _).mp hq with ⟨b, _⟩ | ⟨w', b, _, e | e⟩ | ⟨v, e1, _, e | e⟩
      · rcases h2 q b with e | e
        · exact Or.inl e
        · exact Or.inr (List.mem_cons_of_mem _ e)
      · rw [e]; exact Or.inl hbc
      · rw [e]; exact Or.inl hbc
      · rw [e]; exact Or.inr (List.mem_cons_self ..)
      · rw [e]; exact Or.inr (List.mem_cons_self ..)
    · intro x a b hx
      have hx16 : x < 16 ∨ 16 ≤ x := by omega
      rcases List.mem_cons.mp hx with e | e
      · obtain ⟨w, hw⟩ := h4 x (by omega) (by omega) b
        exact (nu _ _ hw).1 e
      · exact h3 x (by omega) b e
    · intro x a b d
      obtain ⟨w, hw⟩ := h4 x (by omega) b d
      exact ⟨w, keep x w (by omega) hw⟩
    · intro z' hz'
      rcases List.mem_cons.mp hz' with e | e
      · rw [e]; exact ⟨z16, v0, (zin v0 hv0 hv1).1⟩
      · obtain ⟨a, w, hw⟩ := h5 z' e
        exact ⟨a, w, keep z' w (zc z' e) hw⟩
    · intro y v a b
      obtain ⟨_, _, hy, _⟩ := zfront y v a
      rcases List.mem_cons.mp b with e | e
      · exact absurd e hy
      · exact e
    · refine OrdZ_mono Zs (fun z' hz' y v a b => ?_) h7
      have a' := back z' _ (zc z' hz') (fun e => zZ (e ▸ hz')) a
      refine ⟨a', ?_⟩
      rcases List.mem_cons.mp b with e | e
      · exact absurd (by rw [e]; simp) (nu _ _ a').2
      · exact e
    · intro x y v a b d
      have hxz : x ≠ z := fun e => b (by rw [e]; exact List.mem_cons_self ..)
      have hxZ : x ∉ Zs := fun e => b (List.mem_cons_of_mem _ e)
      by_cases hxc : x = c
      · have hw : ∃ v2, (c, (y + 1) :: v2) ∈ G ∧ y ≠ c := by
          rcases (hmem _).mp a with ⟨_, b⟩ | ⟨w', b1, b2, e⟩ | ⟨v', _, _, e | e⟩
          · exact absurd hxc b
          · have ew : (y + 1) :: v = w' ∨ (y + 1) :: v = w' ++ [z + 1] := by
              rcases e with e | e
              · exact Or.inl (congrArg Prod.snd e)
              · exact Or.inr (congrArg Prod.snd e)
            match w', b1, b2, ew with
            | [], b1, _, _ => exact absurd rfl (h1 _ b1)
            | a' :: w', b1, b2, ew =>
              have ea : a' = y + 1 := by
                rcases ew with e | e
                · simpa using (congrArg List.head? e).symm
                · simpa using (congrArg List.head? e).symm
              rw [ea] at b1 b2
              exact ⟨w', b1, fun ey => b2 w' (by rw [ey])⟩
          · exact absurd (congrArg Prod.fst e) hxz
          · exact absurd (congrArg Prod.fst e) hxz
        obtain ⟨v2, g1, g2⟩ := hw
        obtain ⟨e1, _, e3⟩ := h8 c y v2 g1 hcZ d
        refine ⟨fun hy => ?_, fun _ => ?_, fun _ => Or.inl (Nat.zero_le _)⟩
        · rcases List.mem_cons.mp hy with e | e
          · exact absurd (by rw [e]; simp) (nu _ _ g1).2
          · exact e1 e
        · rcases e3 rfl with e4 | e4
          · left; omega
          · exact Or.inr e4
      · have a' := back x _ hxc hxz a
        obtain ⟨e1, e2, _⟩ := h8 x y v a' hxZ d
        refine ⟨fun hy => ?_, fun hx => e2 (by omega), fun _ => Or.inl (Nat.zero_le _)⟩
        rcases List.mem_cons.mp hy with e | e
        · exact absurd (by rw [e]; simp) (nu _ _ a').2
        · exact e1 e
    · intro z' y v a b d
      rcases List.mem_cons.mp b with e | e
      · rw [e] at a
        obtain ⟨v1, g1, g2, g3⟩ := zfront y v a
        have hy : y ∈ Zs := by
          rcases List.mem_cons.mp d with e' | e'
          · exact absurd e' g2
          · exact e'
        rcases g3 with g3 | g3
        · intro hv
          rw [← g3, hv] at g1
          have := h11 c _ c g1 hcZ hc16 (by rw [er_cons, Nat.add_sub_cancel, if_neg hcZ, er_cons, Nat.add_sub_cancel, if_pos hy]; rfl)
          exact hno c hc16 this
        · rw [g3]; simp
      · have a' := back z' _ (zc z' e) (fun e' => zZ (e' ▸ e)) a
        rcases List.mem_cons.mp d with e' | e'
        · exact absurd (by rw [e']; simp) (nu _ _ a').2
        · exact h9 z' y v a' e e'
    · intro z' w a b
      rcases List.mem_cons.mp b with e | e
      · rw [e] at a ⊢
        obtain ⟨v, g1, g2, g3 | g3⟩ := zback _ a
        · rw [g3]; exact Or.inr (zin v g1 g2).2
        · exact Or.inl ⟨v, g3, g1, (zin v g1 g2).1⟩
      · have a' := back z' _ (zc z' e) (fun e' => zZ (e' ▸ e)) a
        rcases h10 z' w a' e with ⟨w', e1, e2, e3⟩ | e2
        · exact Or.inl ⟨w', e1, e2, keep z' _ (zc z' e) e3⟩
        · exact Or.inr (keep z' _ (zc z' e) e2)
    · intro x w y a b d e
      have hxz : x ≠ z := fun e => b (by rw [e]; exact List.mem_cons_self ..)
      have hxZ : x ∉ Zs := fun e => b (List.mem_cons_of_mem _ e)
      have go : ∀ w1, (x, w1) ∈ G → er (z :: Zs) w1 = er Zs w1 := fun w1 hw1 => er_new (fun a ha => ((hG.2.1 _ hw1).2.2 a ha).1) (nu _ _ hw1).2
      rcases (hmem _).mp a with ⟨b, _⟩ | ⟨w', b1, _, e' | e'⟩ | ⟨v, _, _, e' | e'⟩
      · rw [go w b] at e
        exact h11 x w y b hxZ d e
      · have ex : x = c := congrArg Prod.fst e'
        have ew : w = w' := congrArg Prod.snd e'
        rw [← ex, ← ew] at b1
        rw [go w b1] at e
        exact h11 x w y b1 hxZ d e
      · have ex : x = c := congrArg Prod.fst e'
        have ew : w = w' ++ [z + 1] := congrArg Prod.snd e'
        rw [← ex] at b1
        rw [ew, er_app, go w' b1, er_cons, Nat.add_sub_cancel, if_pos (List.mem_cons_self ..), show er (z :: Zs) [] = [] from rfl, List.append_nil] at e
        exact h11 x w' y b1 hxZ d e
      · exact absurd (congrArg Prod.fst e') hxz
      · exact absurd (congrArg Prod.fst e') hxz
end LIS
