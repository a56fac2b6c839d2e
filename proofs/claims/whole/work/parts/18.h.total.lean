/-! toGreibach: whole runs -/
def fN (G : List PR) : Option PR := G.find? (fun q => ntB q.2)
def tfS (G : List PR) : List PR × Bool := match fN G with
  | none => (G, false)
  | some p => addall (exL (p.2.getD 0 0 - 1) p G) (rmv p G, false)
/-- n steps, never too large, and then none is left -/
def Run : Nat → List PR → Prop
  | 0, G => fN G = none
  | n + 1, G => fN G ≠ none ∧ (tfS G).2 = false ∧ Run n (tfS G).1
theorem fN_none {G : List PR} (h : fN G = none) : ∀ q ∈ G, ntB q.2 = false := by
  intro q hq
  have := List.find?_eq_none.mp h q hq
  simpa using this
theorem fN_of {G : List PR} (h : ∀ q ∈ G, ntB q.2 = false) : fN G = none := List.find?_eq_none.mpr (fun q hq => by rw [h q hq]; decide)
theorem fN_some {G : List PR} (hG : Gok G) {p : PR} (h : fN G = some p) : p ∈ G ∧ ntB p.2 = true ∧ ∀ q ∈ G, ntB q.2 = true → en p ≤ en q := by
  obtain ⟨h1, as, bs, h2, h3⟩ := List.find?_eq_some_iff_append.mp h
  refine ⟨by rw [h2]; simp, h1, fun q hq hb => ?_⟩
  have hs := hG.2.2
  unfold Srt at hs
  rw [h2] at hs hq
  rcases List.mem_append.mp hq with e | e
  · have := h3 q e
    rw [hb] at this
    cases this
  · rcases List.mem_cons.mp e with e | e
    · rw [e]; exact Nat.le_refl _
    · exact Nat.le_of_lt ((List.pairwise_cons.mp (List.pairwise_append.mp hs).2.1).1 q e)
theorem en_le {p q : PR} (hp : okp p) (hq : okp q) (h : en p ≤ en q) : p.1 ≤ q.1 ∧ (p.1 = q.1 → p.2.getD 0 0 ≤ q.2.getD 0 0) := by
  have a1 := en_left hp
  have a2 := en_left hq
  have b1 := en_dig hp (k := 0) (by decide)
  have b2 := en_dig hq (k := 0) (by decide)
  have e : (2 : Nat) ^ (35 - 5 * 0) = 34359738368 := by decide
  rw [e] at b1 b2
  omega
theorem tfS_ok {G : List PR} (hG : Gok G) : Gok (tfS G).1 := by
  unfold tfS
  split
  · exact hG
  · rename_i p hp
    exact addall_ok _ (exL_ook (hG.2.1 p (fN_some hG hp).1) hG.2.1) (rmv_ok hG)
theorem tfS_mem {G : List PR} (hG : Gok G) {x y : Nat} {v : List Nat} (hp : fN G = some (x, (y + 1) :: v)) (hf : (tfS G).2 = false) (q : PR) : q ∈ (tfS G).1 ↔ (q ∈ G ∧ q ≠ (x, (y + 1) :: v)) ∨ ∃ u, (y, u) ∈ G ∧ q = (x, u ++ v) := by
  have hpG := (fN_some hG hp).1
  unfold tfS at hf ⊢
  rw [hp] at hf ⊢
  have hf : (addall (exL y (x, (y + 1) :: v) G) (rmv (x, (y + 1) :: v) G, false)).2 = false := hf
  obtain ⟨_, h2, h3⟩ := addall_f _ hf
  show q ∈ (addall (exL y (x, (y + 1) :: v) G) (rmv (x, (y + 1) :: v) G, false)).1 ↔ _
  rw [h3 q, rmv_mem (hG.2.1 _ hpG) hG q]
  constructor
  · rintro (h | h)
    · exact Or.inl h
    · obtain ⟨u, hu, e⟩ := exL_mem.mp h
      exact Or.inr ⟨u, hu, rowP_eq e.symm⟩
  · rintro (h | ⟨u, hu, rfl⟩)
    · exact Or.inl h
    · right
      have hm : rowP x (u ++ v) ∈ exL y (x, (y + 1) :: v) G := exL_mem.mpr ⟨u, hu, rfl⟩
      rw [rowP_nn (h2 _ hm)] at hm
      exact hm
def NX (X : Nat) (G : List PR) (y : Nat) : WL := if y = X then [] else (G.filter (fun q => decide (q.1 = y))).map (fun q => q.2)
def SX (X : Nat) (G : List PR) : WL := (G.filter (fun q => decide (q.1 = X))).map (fun q => q.2)
def aX (X : Nat) (G : List PR) : Nat := 60 - (G.filter (fun q => !decide (q.1 = X))).length
theorem SX_mem {X : Nat} {G : List PR} {w : List Nat} : w ∈ SX X G ↔ (X, w) ∈ G := by
  unfold SX
  rw [List.mem_map]
  constructor
  · rintro ⟨q, hq, e⟩
    obtain ⟨h1, h2⟩ := List.mem_filter.mp hq
    have h2 : q.1 = X := of_decide_eq_true h2
    rw [← h2, ← e]
    exact h1
  · intro h
    exact ⟨(X, w), List.mem_filter.mpr ⟨h, decide_eq_true rfl⟩, rfl⟩
theorem NX_mem {X y : Nat} {G : List PR} {w : List Nat} : w ∈ NX X G y ↔ y ≠ X ∧ (y, w) ∈ G := by
  unfold NX
  by_cases h : y = X
  · rw [if_pos h]
    exact ⟨fun h' => (by cases h'), fun h' => absurd h h'.1⟩
  · rw [if_neg h]
    exact ⟨fun h' => ⟨h, SX_mem.mp h'⟩, fun h' => SX_mem.mpr h'.2⟩
theorem SX_nodup (X : Nat) {G : List PR} (hG : Gok G) : (SX X G).Nodup := by
  have h := (hG.2.2.nodup).filter (fun q => decide (q.1 = X))
  unfold SX
  have key : ∀ l : List PR, l.Nodup → (∀ q ∈ l, q.1 = X) → (l.map (fun q => q.2)).Nodup := by
    intro l
    induction l with
    | nil => intro _ _; exact List.nodup_nil
    | cons q l ih =>
      intro hn hx
      have hn' := List.nodup_cons.mp hn
      refine List.nodup_cons.mpr ⟨fun hm => ?_, ih hn'.2 (fun r hr => hx r (List.mem_cons_of_mem _ hr))⟩
      obtain ⟨r, hr, e⟩ := List.mem_map.mp hm
      have : r = q := Prod.ext ((hx r (List.mem_cons_of_mem _ hr)).trans (hx q (List.mem_cons_self ..)).symm) e
      exact hn'.1 (this ▸ hr)
  exact key _ h (fun q hq => of_decide_eq_true (List.mem_filter.mp hq).2)
theorem NX_nodup (X : Nat) {G : List PR} (hG : Gok G) (y : Nat) : (NX X G y).Nodup := by
  unfold NX
  split
  · exact List.nodup_nil
  · exact SX_nodup y hG
theorem filt_2 {α : Type} (p : α → Bool) : ∀ l : List α, (l.filter p).length + (l.filter (fun a => !p a)).length = l.length := by
  intro l
  induction l with
  | nil => rfl
  | cons a l ih =>
    rw [List.filter_cons, List.filter_cons]
    cases p a
    · simp
      omega
    · simp
      omega
theorem SX_len (X : Nat) {G : List PR} (hG : Gok G) : (SX X G).length ≤ aX X G := by
  have h1 := filt_2 (fun q : PR => decide (q.1 = X)) G
  have h2 := hG.1
  unfold SX aX
  rw [List.length_map]
  omega
theorem Gok.eq_of {G H : List PR} (hG : Gok G) (hH : Gok H) (p : PR → Bool) (h : ∀ q, p q = true → (q ∈ G ↔ q ∈ H)) : G.filter p = H.filter p := by
  have a := hG.filter p
  have b := hH.filter p
  refine Gok_ext a.2.1 b.2.1 a.2.2 b.2.2 (fun q => ?_)
  rw [List.mem_filter, List.mem_filter]
  constructor
  · rintro ⟨h1, h2⟩; exact ⟨(h q h2).mp h1, h2⟩
  · rintro ⟨h1, h2⟩; exact ⟨(h q h2).mpr h1, h2⟩
theorem ext_run {X : Nat} {Fr : Nat → Prop} (hF0 : ∀ y, Fr y → y ≠ X) : ∀ (n : Nat) (G : List PR), Gok G → (∀ q ∈ G, q.2 ≠ []) → Run n G → (∀ q ∈ G, q.1 < X → ntB q.2 = false) → (∀ y v, (X, (y + 1) :: v) ∈ G → y < 16 → Fr y) → (∀ y, Fr y → ∀ u, u ∈ NX X G y → ∀ y' v', u = (y' + 1) :: v' → y' < 16 → Fr y') → ∃ n1 n2 G2, n = n1 + n2 ∧ RX (NX X G) (aX X G) n1 (SX X G) ∧ Run n2 G2 ∧ Gok G2 ∧ (∀ q : PR, q.1 ≠ X → (q ∈ G2 ↔ q ∈ G)) ∧ (∀ q ∈ G2, q.1 ≤ X → ntB q.2 = false) ∧ ∀ q ∈ G2, q.2 ≠ [] := by
  intro n
  induction n with
  | zero =>
    intro G hG hne hr _ _ _
    have h0 := fN_none hr
    exact ⟨0, 0, G, rfl, fun w hw => h0 _ (SX_mem.mp hw), hr, hG, fun q _ => Iff.rfl, fun q hq _ => h0 q hq, hne⟩
  | succ n ih =>
    intro G hG hne hr hlo hF1 hF2
    obtain ⟨r1, r2, r3⟩ := id hr
    cases hp : fN G with
    | none => exact absurd hp r1
    | some p =>
      obtain ⟨k1, k2, k3⟩ := fN_some hG hp
      obtain ⟨y, v, hy, ev⟩ := nt_ex k2
      have ep : p = (p.1, (y + 1) :: v) := Prod.ext rfl ev
      by_cases hx : p.1 = X
      · rw [hx] at ep
        rw [ep] at hp k1 k3
        have hmem := tfS_mem hG hp r2
        have hG' := tfS_ok hG
        have hyF := hF1 y v k1 hy
        have hyX := hF0 y hyF
        have hoth : ∀ q : PR, q.1 ≠ X → (q ∈ (tfS G).1 ↔ q ∈ G) := by
          intro q hq
          rw [hmem]
          constructor
          · rintro (⟨a, _⟩ | ⟨u, _, e⟩)
            · exact a
            · exact absurd (congrArg Prod.fst e) hq
          · intro a
            exact Or.inl ⟨a, fun e => hq (congrArg Prod.fst e)⟩
        have hN : NX X (tfS G).1 = NX X G := by
          funext t
          unfold NX
          by_cases ht : t = X
          · rw [if_pos ht, if_pos ht]
          · rw [if_neg ht, if_neg ht, hG'.eq_of hG (fun q => decide (q.1 = t)) (fun q hq => hoth q (by rw [of_decide_eq_true hq]; exact ht))]
        have ha : aX X (tfS G).1 = aX X G := by
          unfold aX
          rw [hG'.eq_of hG (fun q => !decide (q.1 = X)) (fun q hq => hoth q (by simpa using hq))]
        have hne' : ∀ q ∈ (tfS G).1, q.2 ≠ [] := by
          intro q hq
          rcases (hmem q).mp hq with ⟨a, _⟩ | ⟨u, hu, e⟩
          · exact hne q a
          · rw [e]
            intro e'
            exact hne _ hu (List.append_eq_nil_iff.mp e').1
        obtain ⟨n1, n2, G2, g1, g2, g3, g4, g5, g6, g7⟩ := ih (tfS G).1 hG' hne' r3 (fun q hq hlt => hlo q ((hoth q (by omega)).mp hq) hlt) (fun y' v' hm hy' => by
          rcases (hmem _).mp hm with ⟨a, _⟩ | ⟨u, hu, e⟩
          · exact hF1 y' v' a hy'
          · have e := congrArg Prod.snd e
            match u, hu, e with
            | [], hu, _ => exact absurd rfl (hne _ hu)
            | b :: u', hu, e =>
              have eb : b = y' + 1 := by have := congrArg List.head? e; simpa using this.symm
              exact hF2 y hyF _ (NX_mem.mpr ⟨hyX, hu⟩) y' u' (by rw [eb]) hy') (by rw [hN]; exact hF2)
        refine ⟨n1 + 1, n2, G2, by omega, ?_, g3, g4, fun q hq => (g5 q hq).trans (hoth q hq), g6, g7⟩
        rw [hN, ha] at g2
        refine ⟨y, v, SX X (tfS G).1, hy, SX_mem.mpr k1, fun y' v' hm hy' => ?_, fun w => ?_, SX_nodup X hG', by rw [← ha]; exact SX_len X hG', fun w hw => (hG'.2.1 _ (SX_mem.mp hw)).2.1, g2⟩
        · have hm := SX_mem.mp hm
          have h1 := k3 _ hm (by show ntB ((y' + 1) :: v') = true; rw [nt_cons]; exact decide_eq_true hy')
          have h2 := (en_le (hG.2.1 _ k1) (hG.2.1 _ hm) h1).2 rfl
          have h2 : y + 1 ≤ y' + 1 := h2
          omega
        · rw [SX_mem, hmem]
          constructor
          · rintro (⟨a, b⟩ | ⟨u, hu, e⟩)
            · exact Or.inl ⟨SX_mem.mpr a, fun e => b (by rw [e])⟩
            · exact Or.inr ⟨u, NX_mem.mpr ⟨hyX, hu⟩, congrArg Prod.snd e⟩
          · rintro (⟨a, b⟩ | ⟨u, hu, e⟩)
            · exact Or.inl ⟨SX_mem.mp a, fun e => b (congrArg Prod.snd e)⟩
            · exact Or.inr ⟨u, (NX_mem.mp hu).2, by rw [e]⟩
      · have hgt : X < p.1 := by
          rcases Nat.lt_trichotomy X p.1 with g | g | g
          · exact g
          · exact absurd g.symm hx
          · rw [hlo p k1 g] at k2; cases k2
        have hX0 : ∀ w, (X, w) ∈ G → ntB w = false := by
          intro w hw
          cases hb : ntB w with
          | false => rfl
          | true =>
            have := (en_le (hG.2.1 _ k1) (hG.2.1 _ hw) (k3 _ hw hb)).1
            have : p.1 ≤ X := this
            omega
        refine ⟨0, n + 1, G, by omega, fun w hw => hX0 w (SX_mem.mp hw), hr, hG, fun q _ => Iff.rfl, fun q hq hle => ?_, hne⟩
        rcases Nat.lt_or_eq_of_le hle with g | g
        · exact hlo q hq g
        · exact hX0 q.2 (by rw [← g]; exact hq)
