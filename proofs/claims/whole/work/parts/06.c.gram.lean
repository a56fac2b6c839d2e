/-! SORTED ROWS OF PRODUCTIONS, in the memory of both -/
abbrev PR : Type := Nat × List Nat
theorem lc_lt {a b : Nat} (ha : a < 2 ^ 63) (hb : b < 2 ^ 63) : lg_cmp (lN a) (lN b) < nI 0 ↔ a < b := (lg_cmp_lt _ _).trans (pk_lLT ha hb)
theorem lc_le {a b : Nat} (ha : a < 2 ^ 63) (hb : b < 2 ^ 63) : lg_cmp (lN a) (lN b) ≤ nI 0 ↔ a ≤ b := (lg_cmp_le _ _).trans (pk_lLE ha hb)
theorem lc_eq {a b : Nat} (ha : a < 2 ^ 63) (hb : b < 2 ^ 63) : lg_cmp (lN a) (lN b) = nI 0 ↔ a = b := (lg_cmp_eq _ _).trans (pk_lEQ ha hb)
theorem sI_same (σ : si_M) (k j : Nat) (v : Int32) : (si_sI σ k j v).1 k j = v := by simp [si_sI]
theorem sI_ne (σ : si_M) {k a : Nat} (j : Nat) (v : Int32) (h : a ≠ k) : (si_sI σ k j v).1 a = σ.1 a := by funext b; simp [si_sI, h]
theorem sI_nj (σ : si_M) (k : Nat) {j b : Nat} (v : Int32) (h : b ≠ j) : (si_sI σ k j v).1 k b = σ.1 k b := by simp [si_sI, h]
theorem sI_2 (σ : si_M) (k j : Nat) (v : Int32) : (si_sI σ k j v).2 = σ.2 := rfl
theorem sJ_same (σ : si_M) (k j : Nat) (v : Int64) : (si_sJ σ k j v).2 k j = v := by simp [si_sJ]
theorem sJ_ne (σ : si_M) {k a : Nat} (j : Nat) (v : Int64) (h : a ≠ k) : (si_sJ σ k j v).2 a = σ.2 a := by funext b; simp [si_sJ, h]
theorem sJ_nj (σ : si_M) (k : Nat) {j b : Nat} (v : Int64) (h : b ≠ j) : (si_sJ σ k j v).2 k b = σ.2 k b := by simp [si_sJ, h]
theorem sJ_1 (σ : si_M) (k j : Nat) (v : Int64) : (si_sJ σ k j v).1 = σ.1 := rfl
theorem sA_same (σ : si_M) (k : Nat) (f : Nat → Int64) : (si_sA σ k f).2 k = f := by funext b; simp [si_sA]
theorem sA_ne (σ : si_M) {k a : Nat} (f : Nat → Int64) (h : a ≠ k) : (si_sA σ k f).2 a = σ.2 a := by funext b; simp [si_sA, h]
theorem sA_1 (σ : si_M) (k : Nat) (f : Nat → Int64) : (si_sA σ k f).1 = σ.1 := rfl
/-- all cells but those of S are as they were -/
def Keep (S : List Nat) (σ τ : si_M) : Prop := ∀ k, k ∉ S → τ.1 k = σ.1 k ∧ τ.2 k = σ.2 k
theorem Keep.rf {S : List Nat} {σ : si_M} : Keep S σ σ := fun _ _ => ⟨rfl, rfl⟩
theorem Keep.tr {S : List Nat} {σ τ ρ : si_M} (h1 : Keep S σ τ) (h2 : Keep S τ ρ) : Keep S σ ρ := fun k hk => ⟨(h2 k hk).1.trans (h1 k hk).1, (h2 k hk).2.trans (h1 k hk).2⟩
theorem Keep.mono {S S' : List Nat} {σ τ : si_M} (h : Keep S σ τ) (hs : ∀ k ∈ S, k ∈ S') : Keep S' σ τ := fun k hk => h k (fun hh => hk (hs k hh))
theorem Keep.sI {S : List Nat} (σ : si_M) {k : Nat} (hk : k ∈ S) (j : Nat) (v : Int32) : Keep S σ (si_sI σ k j v) := fun a ha => ⟨sI_ne σ j v (fun e => ha (e ▸ hk)), rfl⟩
theorem Keep.sJ {S : List Nat} (σ : si_M) {k : Nat} (hk : k ∈ S) (j : Nat) (v : Int64) : Keep S σ (si_sJ σ k j v) := fun a ha => ⟨rfl, sJ_ne σ j v (fun e => ha (e ▸ hk))⟩
theorem Keep.sA {S : List Nat} (σ : si_M) {k : Nat} (hk : k ∈ S) (f : Nat → Int64) : Keep S σ (si_sA σ k f) := fun a ha => ⟨rfl, sA_ne σ f (fun e => ha (e ▸ hk))⟩
/-- a row of longs holds a list of productions -/
def Row (f : Nat → Int64) (G : List PR) : Prop := ∀ i q, G[i]? = some q → f i = lN (en q)
def Oks (G : List PR) : Prop := ∀ q ∈ G, okp q
def Srt (G : List PR) : Prop := G.Pairwise (fun p q => en p < en q)
theorem Row.at {f : Nat → Int64} {G : List PR} (h : Row f G) {i : Nat} (hi : i < G.length) : f i = lN (en G[i]) := h i _ (List.getElem?_eq_getElem hi)
theorem Oks.at {G : List PR} (h : Oks G) {i : Nat} (hi : i < G.length) : okp G[i] := h _ (List.getElem_mem hi)
theorem en_inj {p q : PR} (hp : okp p) (hq : okp q) (h : en p = en q) : p = q := by
  have h1 : p.1 = q.1 := by rw [← en_left hp, ← en_left hq, h]
  have hd : ∀ k, k < 8 → p.2.getD k 0 = q.2.getD k 0 := fun k hk => by rw [← en_dig hp hk, ← en_dig hq hk, h]
  have hlen : p.2.length = q.2.length := by
    rcases Nat.lt_trichotomy p.2.length q.2.length with hlt | heq | hgt
    · have a := getD_pos hq.2 hlt
      have b := hq.2.1
      have c := hd p.2.length (by omega)
      rw [getD_out (Nat.le_refl _)] at c
      omega
    · exact heq
    · have a := getD_pos hp.2 hgt
      have b := hp.2.1
      have c := hd q.2.length (by omega)
      rw [getD_out (Nat.le_refl _)] at c
      omega
  have h2 : p.2 = q.2 := by
    apply List.ext_getElem hlen
    intro k hk1 hk2
    have b := hp.2.1
    have c := hd k (by omega)
    simpa [List.getD, hk1, hk2] using c
  exact Prod.ext h1 h2
def pos (v : Nat) : List PR → Nat
  | [] => 0
  | q :: G => if en q < v then pos v G + 1 else 0
theorem pos_le (v : Nat) : ∀ G : List PR, pos v G ≤ G.length := by
  intro G
  induction G with
  | nil => simp [pos]
  | cons q G ih => simp only [pos, List.length_cons]; split <;> omega
theorem pos_lt {v : Nat} : ∀ {G : List PR} {i : Nat} (h : i < pos v G), ∃ q, G[i]? = some q ∧ en q < v := by
  intro G
  induction G with
  | nil => intro i h; simp [pos] at h
  | cons q G ih =>
    intro i h
    simp only [pos] at h
    split at h
    · cases i with
      | zero => exact ⟨q, by simp, by assumption⟩
      | succ i => simpa using ih (i := i) (by omega)
    · omega
theorem pos_ge {v : Nat} : ∀ {G : List PR} (hs : Srt G) {i : Nat} {q : PR} (h : pos v G ≤ i) (hq : G[i]? = some q), v ≤ en q := by
  intro G
  induction G with
  | nil => intro _ i q _ hq; simp at hq
  | cons p G ih =>
    intro hs i q h hq
    obtain ⟨h1, h2⟩ := List.pairwise_cons.mp hs
    simp only [pos] at h
    split at h
    · cases i with
      | zero => omega
      | succ i => exact ih h2 (i := i) (by omega) (by simpa using hq)
    · rename_i hp
      cases i with
      | zero => simp at hq; subst hq; omega
      | succ i =>
        have := h1 q (List.mem_of_getElem? (by simpa using hq))
        omega
/-- the row with one more, in its place -/
def ins (p : PR) (G : List PR) : List PR := G.take (pos (en p) G) ++ p :: G.drop (pos (en p) G)
def addq (p : PR) (G : List PR) : List PR := if p ∈ G then G else ins p G
theorem ins_get (p : PR) (G : List PR) (i : Nat) : (ins p G)[i]? = if i < pos (en p) G then G[i]? else if i = pos (en p) G then some p else G[i - 1]? := by
  have hl := pos_le (en p) G
  unfold ins
  by_cases h : i < pos (en p) G
  · rw [if_pos h, List.getElem?_append_left (by rw [List.length_take]; omega), List.getElem?_take_of_lt h]
  · rw [if_neg h, List.getElem?_append_right (by rw [List.length_take]; omega), List.length_take, Nat.min_eq_left hl]
    by_cases h2 : i = pos (en p) G
    · rw [if_pos h2, h2, Nat.sub_self]
      rfl
    · rw [if_neg h2]
      obtain ⟨d, hd⟩ : ∃ d, i - pos (en p) G = d + 1 := ⟨i - pos (en p) G - 1, by omega⟩
      rw [hd, List.getElem?_cons_succ, List.getElem?_drop]
      congr 1
      omega
theorem ins_len (p : PR) (G : List PR) : (ins p G).length = G.length + 1 := by
  have hl := pos_le (en p) G
  unfold ins
  rw [List.length_append, List.length_take, List.length_cons, List.length_drop]
  omega
theorem mem_ins {p q : PR} {G : List PR} : q ∈ ins p G ↔ q = p ∨ q ∈ G := by
  unfold ins
  constructor
  · intro h
    rcases List.mem_append.mp h with h | h
    · exact Or.inr (List.mem_of_mem_take h)
    · rcases List.mem_cons.mp h with h | h
      · exact Or.inl h
      · exact Or.inr (List.mem_of_mem_drop h)
  · rintro (h | h)
    · exact List.mem_append_right _ (h ▸ List.mem_cons_self)
    · rw [← List.take_append_drop (pos (en p) G) G] at h
      rcases List.mem_append.mp h with h | h
      · exact List.mem_append_left _ h
      · exact List.mem_append_right _ (List.mem_cons_of_mem _ h)
theorem mem_addq {p q : PR} {G : List PR} : q ∈ addq p G ↔ q = p ∨ q ∈ G := by
  unfold addq
  split
  · constructor
    · exact Or.inr
    · rintro (h | h)
      · rw [h]; assumption
      · exact h
  · exact mem_ins
theorem srt_ins {p : PR} {G : List PR} (hp : okp p) (hG : Oks G) (hs : Srt G) (hn : p ∉ G) : Srt (ins p G) := by
  have e := List.take_append_drop (pos (en p) G) G
  have hs2 : Srt (G.take (pos (en p) G) ++ G.drop (pos (en p) G)) := by rw [e]; exact hs
  obtain ⟨h1, h2, h3⟩ := List.pairwise_append.mp hs2
  have lo : ∀ q ∈ G.take (pos (en p) G), en q < en p := by
    intro q hq
    obtain ⟨i, hi⟩ := List.getElem?_of_mem hq
    have hlt : i < pos (en p) G := by
      have := (List.getElem?_eq_some_iff.mp hi).1
      rw [List.length_take] at this
      omega
    obtain ⟨q2, h4, h5⟩ := pos_lt hlt
    rw [List.getElem?_take_of_lt hlt, h4] at hi
    cases hi
    exact h5
  have hi : ∀ q ∈ G.drop (pos (en p) G), en p < en q := by
    intro q hq
    obtain ⟨i, hi⟩ := List.getElem?_of_mem hq
    rw [List.getElem?_drop] at hi
    have h4 := pos_ge (v := en p) hs (Nat.le_add_right _ _) hi
    rcases Nat.lt_or_eq_of_le h4 with h5 | h5
    · exact h5
    · exact absurd (en_inj hp (hG q (List.mem_of_getElem? hi)) h5 ▸ List.mem_of_getElem? hi) hn
  unfold ins
  refine List.pairwise_append.mpr ⟨h1, List.pairwise_cons.mpr ⟨hi, h2⟩, ?_⟩
  intro a ha b hb
  rcases List.mem_cons.mp hb with rfl | hb
  · exact lo a ha
  · exact Nat.lt_trans (lo a ha) (hi b hb)
theorem srt_addq {p : PR} {G : List PR} (hp : okp p) (hG : Oks G) (hs : Srt G) : Srt (addq p G) := by
  unfold addq
  split
  · exact hs
  · exact srt_ins hp hG hs (by assumption)
theorem oks_addq {p : PR} {G : List PR} (hp : okp p) (hG : Oks G) : Oks (addq p G) := by
  intro q hq
  rcases mem_addq.mp hq with rfl | h
  · exact hp
  · exact hG q h
/-- whether p stands in the row shows at its place -/
theorem pos_mem {p : PR} {G : List PR} (hp : okp p) (hG : Oks G) (hs : Srt G) : p ∈ G ↔ G[pos (en p) G]? = some p := by
  constructor
  · intro h
    obtain ⟨i, hi⟩ := List.getElem?_of_mem h
    have h1 : pos (en p) G ≤ i := by
      rcases Nat.lt_or_ge i (pos (en p) G) with h2 | h2
      · obtain ⟨q, h3, h4⟩ := pos_lt h2
        rw [hi] at h3
        cases h3
        omega
      · exact h2
    rcases Nat.lt_or_eq_of_le h1 with h2 | h2
    · exfalso
      have hil := (List.getElem?_eq_some_iff.mp hi).1
      have hk : pos (en p) G < G.length := by omega
      have h3 := pos_ge hs (Nat.le_refl _) (List.getElem?_eq_getElem hk)
      have h4 := List.pairwise_iff_getElem.mp hs (pos (en p) G) i hk hil h2
      rw [(List.getElem?_eq_some_iff.mp hi).2] at h4
      omega
    · rw [h2]; exact hi
  · intro h; exact List.mem_of_getElem? h
