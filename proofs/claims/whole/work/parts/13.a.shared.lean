/-! leftFactor: common prefixes -/
def lcp : List Nat → List Nat → Nat
  | a :: u, b :: v => if a = b then lcp u v + 1 else 0
  | _, _ => 0
theorem lcp_nl (v : List Nat) : lcp [] v = 0 := by cases v <;> rfl
theorem lcp_nr (u : List Nat) : lcp u [] = 0 := by cases u <;> rfl
theorem lcp_le : ∀ (u v : List Nat), lcp u v ≤ u.length ∧ lcp u v ≤ v.length := by
  intro u
  induction u with
  | nil => intro v; rw [lcp_nl]; exact ⟨Nat.zero_le _, Nat.zero_le _⟩
  | cons a u ih =>
    intro v
    cases v with
    | nil => rw [lcp_nr]; exact ⟨Nat.zero_le _, Nat.zero_le _⟩
    | cons b v =>
      have := ih v
      simp only [lcp, List.length_cons]
      split <;> omega
theorem lcp_comm : ∀ (u v : List Nat), lcp u v = lcp v u := by
  intro u
  induction u with
  | nil => intro v; rw [lcp_nl, lcp_nr]
  | cons a u ih =>
    intro v
    cases v with
    | nil => rfl
    | cons b v =>
      simp only [lcp]
      by_cases h : a = b
      · rw [if_pos h, if_pos h.symm, ih v]
      · rw [if_neg h, if_neg (fun e => h e.symm)]
theorem lcp_self : ∀ (u : List Nat), lcp u u = u.length := by
  intro u
  induction u with
  | nil => rfl
  | cons a u ih => show (if a = a then lcp u u + 1 else 0) = u.length + 1; rw [if_pos rfl, ih]
theorem lcp_take : ∀ (u v : List Nat) (k : Nat), k ≤ lcp u v → u.take k = v.take k := by
  intro u
  induction u with
  | nil =>
    intro v k h
    rw [lcp_nl] at h
    rw [Nat.le_zero.mp h, List.take_zero, List.take_zero]
  | cons a u ih =>
    intro v k h
    cases v with
    | nil => rw [lcp_nr] at h; rw [Nat.le_zero.mp h, List.take_zero, List.take_zero]
    | cons b v =>
      cases k with
      | zero => rfl
      | succ k =>
        simp only [lcp] at h
        split at h
        · rename_i e
          rw [e, List.take_succ_cons, List.take_succ_cons, ih v k (by omega)]
        · omega
theorem lcp_get {u v : List Nat} {k : Nat} (h : k < lcp u v) : u.getD k 0 = v.getD k 0 := by
  have h1 := lcp_take u v (k + 1) h
  have h2 := lcp_le u v
  have h3 : (u.take (k + 1)).getD k 0 = (v.take (k + 1)).getD k 0 := by rw [h1]
  simpa [List.getD, List.getElem?_take] using h3
theorem lcp_ge : ∀ (u v : List Nat) (k : Nat), k ≤ u.length → k ≤ v.length → (∀ j, j < k → u.getD j 0 = v.getD j 0) → k ≤ lcp u v := by
  intro u
  induction u with
  | nil => intro v k h _ _; simp at h; omega
  | cons a u ih =>
    intro v k h1 h2 h
    cases v with
    | nil => simp at h2; omega
    | cons b v =>
      cases k with
      | zero => omega
      | succ k =>
        have h0 := h 0 (by omega)
        simp at h0
        simp only [lcp]
        rw [if_pos h0]
        have := ih v k (by simpa using h1) (by simpa using h2) (fun j hj => by simpa using h (j + 1) (by omega))
        omega
theorem en_top {p r : PR} (hp : okp p) (hr : okp r) (h1 : p.1 = r.1) : ∀ k, k ≤ 8 → (∀ j, j < k → p.2.getD j 0 = r.2.getD j 0) → en p / 2 ^ (40 - 5 * k) = en r / 2 ^ (40 - 5 * k) := by
  intro k
  induction k with
  | zero =>
    intro _ _
    rw [Nat.mul_zero, Nat.sub_zero, show (2 : Nat) ^ 40 = 1099511627776 from rfl, en_left hp, en_left hr, h1]
  | succ k ih =>
    intro hk h
    have h0 := ih (by omega) (fun j hj => h j (by omega))
    have ep : ∀ q : PR, okp q → en q / 2 ^ (35 - 5 * k) = 32 * (en q / 2 ^ (40 - 5 * k)) + q.2.getD k 0 := by
      intro q hq
      have d := Nat.div_add_mod (en q / 2 ^ (35 - 5 * k)) 32
      have e2 : 2 ^ (35 - 5 * k) * 32 = 2 ^ (40 - 5 * k) := by
        rw [show (32 : Nat) = 2 ^ 5 from rfl, ← Nat.pow_add]
        congr 1
        omega
      rw [en_dig hq (show k < 8 by omega), Nat.div_div_eq_div_mul, e2] at d
      exact d.symm
    rw [show 40 - 5 * (k + 1) = 35 - 5 * k by omega, ep p hp, ep r hr, h0, h k (by omega)]
theorem en_mid {p q r : PR} (hp : okp p) (hq : okp q) (hr : okp r) (h1 : p.1 = r.1) (a : en p ≤ en q) (b : en q ≤ en r) {k : Nat} (hk : k ≤ 8) (h : ∀ j, j < k → p.2.getD j 0 = r.2.getD j 0) : q.1 = p.1 ∧ ∀ j, j < k → q.2.getD j 0 = p.2.getD j 0 := by
  have e0 := en_top hp hr h1 k hk h
  have e1 : en q / 2 ^ (40 - 5 * k) = en p / 2 ^ (40 - 5 * k) := by
    have x1 := Nat.div_le_div_right (c := 2 ^ (40 - 5 * k)) a
    have x2 := Nat.div_le_div_right (c := 2 ^ (40 - 5 * k)) b
    omega
  constructor
  · rw [← en_left hq, ← en_left hp, show (1099511627776 : Nat) = 2 ^ (40 - 5 * k) * 2 ^ (5 * k) from by rw [← Nat.pow_add, show 40 - 5 * k + 5 * k = 40 by omega], ← Nat.div_div_eq_div_mul, ← Nat.div_div_eq_div_mul, e1]
  · intro j hj
    rw [← en_dig hq (show j < 8 by omega), ← en_dig hp (show j < 8 by omega), show 35 - 5 * j = (40 - 5 * k) + (5 * k - 5 - 5 * j) by omega, Nat.pow_add, ← Nat.div_div_eq_div_mul, ← Nat.div_div_eq_div_mul, e1]
/-- the length of the common prefix -/
def shl (p q : PR) : Nat := if p.1 = q.1 then lcp p.2 q.2 else 0
theorem shl_le (p q : PR) : shl p q ≤ p.2.length ∧ shl p q ≤ q.2.length := by
  unfold shl
  split
  · exact lcp_le _ _
  · exact ⟨Nat.zero_le _, Nat.zero_le _⟩
theorem shl_mono {p q r : PR} (hp : okp p) (hq : okp q) (hr : okp r) (a : en p ≤ en q) (b : en q ≤ en r) : shl p r ≤ shl p q := by
  by_cases h1 : p.1 = r.1
  · have e : shl p r = lcp p.2 r.2 := by unfold shl; rw [if_pos h1]
    have hl := lcp_le p.2 r.2
    have hp8 := hp.2.1
    obtain ⟨m1, m2⟩ := en_mid hp hq hr h1 a b (k := lcp p.2 r.2) (by omega) (fun j hj => lcp_get hj)
    rw [e]
    unfold shl
    rw [if_pos m1.symm]
    refine lcp_ge _ _ _ hl.1 ?_ (fun j hj => (m2 j hj).symm)
    rcases Nat.lt_or_ge q.2.length (lcp p.2 r.2) with h | h
    · exfalso
      have h3 := m2 q.2.length h
      rw [getD_out (Nat.le_refl _)] at h3
      have := getD_pos hp.2 (k := q.2.length) (by omega)
      omega
    · exact h
  · unfold shl
    rw [if_neg h1]
    exact Nat.zero_le _
theorem grp_iff {p q : PR} (hp : okp p) (hq : okp q) (h0 : 0 < p.2.length) : 0 < shl p q ↔ q.1 = p.1 ∧ q.2.getD 0 0 = p.2.getD 0 0 := by
  have hp0 := getD_pos hp.2 h0
  constructor
  · intro h
    unfold shl at h
    split at h
    · rename_i e
      exact ⟨e.symm, (lcp_get h).symm⟩
    · omega
  · rintro ⟨h1, h2⟩
    unfold shl
    rw [if_pos h1.symm]
    refine lcp_ge _ _ 1 h0 ?_ (fun j hj => by have : j = 0 := by omega
                                              subst this; exact h2.symm)
    rcases Nat.lt_or_ge 0 q.2.length with h | h
    · exact h
    · rw [getD_out h] at h2; omega
theorem run_min {p : PR} (hp : okp p) : ∀ (L : List PR) (s : Nat), (∀ q ∈ L, okp q) → L.Pairwise (fun a b => en a < en b) → (∀ q ∈ L, en p ≤ en q) → (∀ q ∈ L, shl p q ≤ s) → L.foldl (fun s q => min s (shl p q)) s = L.foldl (fun _ q => shl p q) s ∧ (∀ q ∈ L, L.foldl (fun _ q => shl p q) s ≤ shl p q) ∧ L.foldl (fun _ q => shl p q) s ≤ s := by
  intro L
  induction L with
  | nil => intro s _ _ _ _; exact ⟨rfl, (fun q hq => by cases hq), Nat.le_refl _⟩
  | cons q L ih =>
    intro s h1 h2 h3 h4
    obtain ⟨h5, h6⟩ := List.pairwise_cons.mp h2
    have hq := h4 q (List.mem_cons_self ..)
    obtain ⟨i1, i2, i3⟩ := ih (shl p q) (fun x hx => h1 x (List.mem_cons_of_mem _ hx)) h6 (fun x hx => h3 x (List.mem_cons_of_mem _ hx)) (fun x hx => shl_mono hp (h1 q (List.mem_cons_self ..)) (h1 x (List.mem_cons_of_mem _ hx)) (h3 q (List.mem_cons_self ..)) (Nat.le_of_lt (h5 x hx)))
    rw [List.foldl_cons, List.foldl_cons, Nat.min_eq_right hq]
    refine ⟨i1, fun x hx => ?_, by omega⟩
    rcases List.mem_cons.mp hx with e | e
    · rw [e]; exact i3
    · exact i2 x e
def gd (G : List PR) (i : Nat) : PR := G.getD i (0, [])
theorem gd_at {G : List PR} {i : Nat} (hi : i < G.length) : gd G i = G[i] := by simp [gd, List.getD, hi]
def tw (p : PR) (D : List PR) : List PR := D.takeWhile (fun q => decide (0 < shl p q))
def fSh (G : List PR) : Option Nat := (List.range (G.length - 1)).find? (fun i => decide (0 < shl (gd G i) (gd G (i + 1))))
def rn (G : List PR) (i : Nat) : List PR := tw (gd G i) (G.drop i)
def sm (G : List PR) (i : Nat) : Nat := (rn G i).foldl (fun _ q => shl (gd G i) q) 8
def rms (L C : List PR) : List PR := L.foldl (fun C q => rmv q C) C
def fa1 (G : List PR) (i z : Nat) : List PR × Bool := addall (ext ((gd G i).1, (gd G i).2.take (sm G i)) (z + 1) :: (rn G i).map (fun q => some (z, q.2.drop (sm G i)))) (rms (rn G i) G, false)
def faF (S : List PR × Bool) : List PR × Bool := if S.2 then S else match fSh S.1 with
  | none => S
  | some i => match fre S.1 with
    | none => (S.1, true)
    | some z => fa1 S.1 i z
theorem fSh_in {G : List PR} {i : Nat} (h : fSh G = some i) : ∃ h1 : i + 1 < G.length, 0 < shl (G[i]'(by omega)) G[i + 1] := by
  have h1 := List.mem_range.mp (List.mem_of_find?_eq_some h)
  have h2 := List.find?_some h
  have h3 : i + 1 < G.length := by omega
  refine ⟨h3, ?_⟩
  rw [gd_at (show i < G.length by omega), gd_at h3] at h2
  simpa using h2
theorem rms_ok : ∀ (L : List PR) {C : List PR}, Gok C → Gok (rms L C) := by
  intro L
  induction L with
  | nil => intro C h; exact h
  | cons q L ih => intro C h; exact ih (rmv_ok h)
theorem rms_mem : ∀ (L : List PR) {C : List PR}, (∀ q ∈ L, okp q) → Gok C → ∀ x, x ∈ rms L C ↔ x ∈ C ∧ x ∉ L := by
  intro L
  induction L with
  | nil => intro C _ _ x; simp [rms]
  | cons q L ih =>
    intro C hL hC x
    have := ih (C := rmv q C) (fun y hy => hL y (List.mem_cons_of_mem _ hy)) (rmv_ok hC) x
    show x ∈ rms L (rmv q C) ↔ _
    rw [this, rmv_mem (hL q (List.mem_cons_self ..)) hC, List.mem_cons]
    constructor
    · rintro ⟨⟨a, b⟩, c⟩
      exact ⟨a, fun h => h.elim b c⟩
    · rintro ⟨a, b⟩
      exact ⟨⟨a, fun e => b (Or.inl e)⟩, fun e => b (Or.inr e)⟩
theorem tw_imp {β : Type} {p : β → Bool} : ∀ {l : List β} {q : β}, q ∈ l.takeWhile p → p q = true := by
  intro l
  induction l with
  | nil => intro q h; cases h
  | cons a l ih =>
    intro q h
    rw [List.takeWhile_cons] at h
    split at h
    · rename_i ha
      rcases List.mem_cons.mp h with e | e
      · rw [e]; exact ha
      · exact ih e
    · cases h
/-- what holds of the run -/
theorem rn_facts {G : List PR} (hG : Gok G) {i : Nat} (hi : i < G.length) : (∀ q ∈ rn G i, q ∈ G ∧ en G[i] ≤ en q ∧ 0 < shl G[i] q) ∧ (rn G i).Pairwise (fun a b => en a < en b) ∧ (rn G i).foldl (fun s q => min s (shl G[i] q)) 8 = sm G i ∧ (∀ q ∈ rn G i, sm G i ≤ shl G[i] q) ∧ sm G i ≤ 8 := by
  have hsub : (rn G i).Sublist G := List.Sublist.trans (List.takeWhile_sublist _) (List.drop_sublist i G)
  have hpw : (rn G i).Pairwise (fun a b => en a < en b) := hG.2.2.sublist hsub
  have hdp := List.pairwise_iff_getElem.mp hG.2.2
  have h1 : ∀ q ∈ rn G i, q ∈ G ∧ en G[i] ≤ en q ∧ 0 < shl G[i] q := by
    intro q hq
    refine ⟨hsub.subset hq, ?_, ?_⟩
    · have h2 : q ∈ G.drop i := (List.takeWhile_sublist _).subset hq
      obtain ⟨j, hj, e⟩ := List.mem_drop_iff_getElem.mp h2
      rcases Nat.eq_zero_or_pos j with h0 | h0
      · subst h0; rw [← e]; exact Nat.le_refl _
      · have := hdp i (i + j) hi (by omega) (by omega)
        rw [e] at this
        omega
    · have := tw_imp hq
      rw [gd_at hi] at this
      simpa using this
  have hok : ∀ q ∈ rn G i, okp q := fun q hq => hG.2.1 q (h1 q hq).1
  have := run_min (hG.2.1.at hi) (rn G i) 8 hok hpw (fun q hq => (h1 q hq).2.1) (fun q hq => Nat.le_trans (shl_le _ _).2 (hok q hq).2.1)
  unfold sm
  rw [gd_at hi]
  exact ⟨h1, hpw, this.1, this.2.1, this.2.2⟩
theorem rn_head {G : List PR} {i : Nat} (hi : i < G.length) (h0 : 0 < G[i].2.length) : G[i] ∈ rn G i := by
  unfold rn tw
  rw [List.drop_eq_getElem_cons hi, gd_at hi, List.takeWhile_cons_of_pos (by
    have : shl G[i] G[i] = G[i].2.length := by unfold shl; rw [if_pos rfl, lcp_self]
    rw [this]
    exact decide_eq_true h0)]
  exact List.mem_cons_self ..
theorem fa_ook {G : List PR} (hG : Gok G) {i : Nat} (hi : i < G.length) {z : Nat} (hz : z < 16) : Ook (ext ((gd G i).1, (gd G i).2.take (sm G i)) (z + 1) :: (rn G i).map (fun q => some (z, q.2.drop (sm G i)))) := by
  intro o ho p hp
  rw [gd_at hi] at ho
  rcases List.mem_cons.mp ho with h | h
  · rw [h] at hp
    exact ext_ok (okp_take (hG.2.1.at hi) _) ⟨by omega, by omega⟩ p hp
  · obtain ⟨q, hq, e⟩ := List.mem_map.mp h
    rw [hp] at e
    rw [← Option.some.inj e]
    have hqo := hG.2.1 q ((rn_facts hG hi).1 q hq).1
    exact ⟨hz, by rw [List.length_drop]; have := hqo.2.1; omega, fun a ha => hqo.2.2 a (List.mem_of_mem_drop ha)⟩
theorem fa1_ok {G : List PR} (hG : Gok G) {i : Nat} (hi : i < G.length) {z : Nat} (hz : z < 16) : Gok (fa1 G i z).1 := addall_ok _ (fa_ook hG hi hz) (rms_ok _ hG)
theorem faF_ok {S : List PR × Bool} (hS : Gok S.1) : Gok (faF S).1 := by
  unfold faF
  split
  · exact hS
  · split
    · exact hS
    · rename_i i hi
      obtain ⟨h1, _⟩ := fSh_in hi
      split
      · exact hS
      · rename_i z hz
        exact fa1_ok hS (by omega) (fre_lt hz)
theorem faF_fl {S : List PR × Bool} (h : S.2 = true) : faF S = S := by unfold faF; rw [if_pos h]
theorem faF_none {S : List PR × Bool} (h : fSh S.1 = none) : faF S = S := by
  unfold faF
  split
  · rfl
  · rw [h]
def faB (S : List PR × Bool) : Bool := !S.2 && (fSh S.1).isSome && (fre S.1).isSome
theorem fa1_mea {S : List PR × Bool} (hS : Gok S.1) {i z : Nat} (hi : fSh S.1 = some i) (hz : fre S.1 = some z) (h2 : S.2 = false) : mea (fa1 S.1 i z) < mea S := by
  have hm : mea S = fre_n S.1 + 1 := by unfold mea; rw [if_neg (by rw [h2]; decide)]
  obtain ⟨hi1, hi2⟩ := fSh_in hi
  have hil : i < S.1.length := by omega
  obtain ⟨f1, f2, f3, f4, f5⟩ := rn_facts hS hil
  have h0 : 0 < S.1[i].2.length := Nat.lt_of_lt_of_le hi2 (shl_le _ _).1
  have hhd := rn_head hil h0
  rw [hm]
  cases hfl : (fa1 S.1 i z).2 with
  | true => unfold mea; rw [if_pos hfl]; omega
  | false =>
    have hm2 : mea (fa1 S.1 i z) = fre_n (fa1 S.1 i z).1 + 1 := by unfold mea; rw [if_neg (by rw [hfl]; decide)]
    rw [hm2]
    obtain ⟨_, g2, g3⟩ := addall_f _ hfl
    have hmem : ∀ x, x ∈ (fa1 S.1 i z).1 ↔ x ∈ rms (rn S.1 i) S.1 ∨ some x ∈ (ext ((gd S.1 i).1, (gd S.1 i).2.take (sm S.1 i)) (z + 1) :: (rn S.1 i).map (fun q => some (z, q.2.drop (sm S.1 i)))) := g3
    have hex : ext ((gd S.1 i).1, (gd S.1 i).2.take (sm S.1 i)) (z + 1) = some (S.1[i].1, S.1[i].2.take (sm S.1 i) ++ [z + 1]) := by
      have := g2 _ (List.mem_cons_self ..)
      rw [gd_at hil] at this ⊢
      unfold ext at this ⊢
      split
      · rfl
      · rename_i hn
        rw [if_neg hn] at this
        exact absurd rfl this
    have m1 : (S.1[i].1, S.1[i].2.take (sm S.1 i) ++ [z + 1]) ∈ (fa1 S.1 i z).1 := (hmem _).mpr (Or.inr (by rw [hex]; exact List.mem_cons_self ..))
    have m2 : ∀ q ∈ rn S.1 i, (z, q.2.drop (sm S.1 i)) ∈ (fa1 S.1 i z).1 := fun q hq => (hmem _).mpr (Or.inr (List.mem_cons_of_mem _ (List.mem_map.mpr ⟨q, hq, rfl⟩)))
    have := fre_less (G' := (fa1 S.1 i z).1) hz (uB_iff.mpr (Or.inr ⟨_, m2 _ hhd, Or.inl rfl⟩)) (fun j hj => by
      rcases uB_iff.mp hj with h | ⟨q, hq, h⟩
      · exact uB_iff.mpr (Or.inl h)
      · by_cases hqr : q ∈ rn S.1 i
        · have hs := (f1 q hqr).2.2
          have hsm := f4 q hqr
          unfold shl at hs hsm
          split at hs
          · rename_i e1
            rw [if_pos e1] at hsm
            rcases h with h | h
            · exact uB_iff.mpr (Or.inr ⟨_, m1, Or.inl (e1.trans h)⟩)
            · rw [← List.take_append_drop (sm S.1 i) q.2] at h
              rcases List.mem_append.mp h with h | h
              · rw [← lcp_take _ _ _ hsm] at h
                exact uB_iff.mpr (Or.inr ⟨_, m1, Or.inr (List.mem_append_left _ h)⟩)
              · exact uB_iff.mpr (Or.inr ⟨_, m2 q hqr, Or.inr h⟩)
          · omega
        · exact uB_iff.mpr (Or.inr ⟨q, (hmem q).mpr (Or.inl ((rms_mem _ (fun x hx => hS.2.1 x (f1 x hx).1) hS q).mpr ⟨hq, hqr⟩)), h⟩))
    omega
/-- a loop that goes on while something was done -/
theorem lp_more {F : Int32 → si_M → Option si_O} {step : (List PR × Bool) → (List PR × Bool)} {more : (List PR × Bool) → Bool} {m : (List PR × Bool) → Nat} {R : si_M → (List PR × Bool) → Prop} (h1 : ∀ τ S, R τ S → ∃ τ', F (bI true) τ = F (bI (more S)) τ' ∧ R τ' (step S)) (h2 : ∀ S, more S = false → step (step S) = step S) (h3 : ∀ τ S, R τ S → more S = true → m (step S) < m S) (h4 : ∀ τ S, R τ S → m S = 0 → more S = false ∧ step S = S) : ∀ (n : Nat) (S : List PR × Bool) (τ : si_M), m S ≤ n → R τ S → ∃ τ', F (bI true) τ = F (bI false) τ' ∧ R τ' (itr step n S) := by
  intro n
  induction n with
  | zero =>
    intro S τ hn hR
    obtain ⟨e1, e2⟩ := h4 τ S hR (by omega)
    obtain ⟨τ', a1, a2⟩ := h1 τ S hR
    rw [e1] at a1
    rw [e2] at a2
    exact ⟨τ', a1, a2⟩
  | succ n ih =>
    intro S τ hn hR
    obtain ⟨τ', a1, a2⟩ := h1 τ S hR
    cases hb : more S with
    | true =>
      rw [hb] at a1
      obtain ⟨τ'', t1, t2⟩ := ih (step S) τ' (by have := h3 τ S hR hb; omega) a2
      exact ⟨τ'', a1.trans t1, t2⟩
    | false =>
      rw [hb] at a1
      refine ⟨τ', a1, ?_⟩
      show R τ' (itr step n (step S))
      rw [itr_fix (h2 S hb)]
      exact a2
