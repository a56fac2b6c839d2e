/-! UNITS, ARROWS AND THEIR CLOSURE (class: Arrows; model: leads) -/
section UN
variable {q : PR}
theorem sy_m1 (h : okp q) (i : Nat) : sy q i = -1 ↔ q.2.getD i 0 = 0 := by
  by_cases hi : i < q.2.length
  · have hp := getD_pos h.2 hi
    rw [sy_in h hi]
    constructor
    · intro e
      exfalso
      have e2 := congrArg Int32.toInt e
      rw [nI_toInt (by omega)] at e2
      have : (-1 : Int32).toInt = -1 := by decide
      omega
    · intro e; omega
  · rw [sy_out (by omega), getD_out (by omega)]
    simp
/-- a unit production -/
def unB (q : PR) : Bool := decide (1 ≤ q.2.getD 0 0) && decide (q.2.getD 0 0 ≤ 16) && decide (q.2.getD 1 0 = 0)
theorem s_X5_isUnit (h : okp q) (σ : si_M) : si_sc gP nX5_isUnit [.long (lN (en q))] σ = some (some (.int (bI (unB q))), σ) := by
  rw [e_X5_isUnit, s_X5_symbolAt h (by decide), ci_s, s_X8_isNt_sy h, ci_s, bz]
  unfold unB
  cases hb : (decide (1 ≤ q.2.getD 0 0) && decide (q.2.getD 0 0 ≤ 16)) with
  | false => rfl
  | true =>
    rw [cond_true, s_X5_symbolAt h (by decide), ci_s, Bool.true_and]
    by_cases h1 : q.2.getD 1 0 = 0
    · rw [nF ((sy_m1 h 1).mpr h1), decide_eq_true h1]; rfl
    · rw [nT (fun e => h1 ((sy_m1 h 1).mp e)), decide_eq_false h1]; rfl
theorem s_X9_isUnit (h : okp q) (σ : si_M) : si_sc gP nX9_isUnit [.long (lN (en q))] σ = some (some (.int (bI (unB q))), σ) := by
  have g0 : q.2.getD 0 0 < 2 ^ 31 := by
    by_cases hi : 0 < q.2.length
    · have := getD_pos h.2 hi; omega
    · rw [getD_out (by omega)]; decide
  have g1 : q.2.getD 1 0 < 2 ^ 31 := by
    by_cases hi : 1 < q.2.length
    · have := getD_pos h.2 hi; omega
    · rw [getD_out (by omega)]; decide
  rw [e_X9_isUnit, s_X9_at h (by decide), ci_s, s_X9_isNonterminal g0, ci_s, bz]
  unfold unB
  cases hb : (decide (1 ≤ q.2.getD 0 0) && decide (q.2.getD 0 0 ≤ 16)) with
  | false => rfl
  | true =>
    rw [cond_true, s_X9_at h (by decide), ci_s, Bool.true_and]
    by_cases h1 : q.2.getD 1 0 = 0
    · rw [nF (by rw [h1]), decide_eq_true h1]; rfl
    · rw [nT (nI_eqF h1 g1 (by decide)), decide_eq_false h1]; rfl
/-- the symbols of a right side as a set -/
def rs (q : PR) : Int32 := q.2.foldl (fun s a => s ||| si_ishl (nI 1) (nI (a - 1))) (nI 0)
theorem s_X5_rightSet (h : okp q) (σ : si_M) : si_sc gP nX5_rightSet [.long (lN (en q))] σ = some (some (.int (rs q)), σ) := by
  have hl := h.2.1
  rw [e_X5_rightSet, s_X5_length h, ci_s]
  have key := lp_fold' (F := fun i s => si_sem gP nX5_rightSet 10 [.long (lN (en q)), si_U, .int s, .int (nI q.2.length), .int (nI i)] [] σ) (G := q.2) (f := fun s a => s ||| si_ishl (nI 1) (nI (a - 1))) (fun i a hi => by
    rw [h_X5_rightSet_10, cF (nI_ge hi (by omega)), s_X5_symbolAt h (by omega), ci_s, sy_in h hi, gD hi, nI_add]) (nI 0)
  refine key.trans ?_
  rw [h_X5_rightSet_10, cT (nI_le (Nat.le_refl _) (by omega))]
  rfl
theorem or0 (x : Int32) : nI 0 ||| x = x := Int32.zero_or
theorem or0' (x : Int32) : x ||| nI 0 = x := Int32.or_zero
theorem unB_w (h : okp q) (hu : unB q = true) : ∃ a, q.2 = [a] ∧ 1 ≤ a ∧ a ≤ 16 := by
  unfold unB at hu
  simp only [Bool.and_eq_true, decide_eq_true_eq] at hu
  obtain ⟨⟨h1, h2⟩, h3⟩ := hu
  match hw : q.2 with
  | [] => rw [hw] at h1; simp at h1
  | [a] => rw [hw] at h1 h2; exact ⟨a, rfl, by simpa using h1, by simpa using h2⟩
  | a :: b :: w =>
    exfalso
    rw [hw] at h3
    have := h.2.2 b (by rw [hw]; simp)
    simp at h3
    omega
theorem rs_unit (h : okp q) (hu : unB q = true) : rs q = si_ishl (nI 1) (nI (q.2.getD 0 0 - 1)) := by
  obtain ⟨a, hw, -, -⟩ := unB_w h hu
  unfold rs
  rw [hw]
  simp only [List.foldl_cons, List.foldl_nil, or0]
  rfl
end UN
/-- a row of ints is written whole -/
def wI (σ : si_M) (k : Nat) (f : Nat → Int32) : si_M := (fun a b => if a = k then f b else σ.1 a b, σ.2)
theorem wI_same (σ : si_M) (k : Nat) (f : Nat → Int32) : (wI σ k f).1 k = f := by funext b; simp [wI]
theorem wI_ne (σ : si_M) {k a : Nat} (f : Nat → Int32) (h : a ≠ k) : (wI σ k f).1 a = σ.1 a := by funext b; simp [wI, h]
theorem wI_2 (σ : si_M) (k : Nat) (f : Nat → Int32) : (wI σ k f).2 = σ.2 := rfl
theorem wI_id (σ : si_M) (k : Nat) : wI σ k (σ.1 k) = σ := by
  refine Prod.ext ?_ rfl
  funext a b
  simp only [wI]
  split
  · rename_i h; rw [h]
  · rfl
theorem wI_sI (σ : si_M) (k : Nat) (f : Nat → Int32) (j : Nat) (v : Int32) : si_sI (wI σ k f) k j v = wI σ k (upd f j v) := by
  refine Prod.ext ?_ rfl
  funext a b
  simp only [wI, si_sI, upd]
  by_cases h : a = k
  · simp [h]
  · simp [h]
theorem wI_wI (σ : si_M) (k : Nat) (f f' : Nat → Int32) : wI (wI σ k f) k f' = wI σ k f' := by
  refine Prod.ext ?_ rfl
  funext a b
  simp only [wI]
  by_cases h : a = k <;> simp [h]
theorem wI_Keep (σ : si_M) (k : Nat) (f : Nat → Int32) : Keep [k] σ (wI σ k f) := fun a ha => ⟨wI_ne σ f (fun e => ha (by simp [e])), rfl⟩
/-- the first n places by L, the rest as before -/
def fx (n : Nat) (r L : Nat → Int32) : Nat → Int32 := fun j => if j < n then L j else r j
theorem fx_at {n : Nat} {r L : Nat → Int32} {j : Nat} (h : j < n) : fx n r L j = L j := by simp [fx, h]
theorem fx_upd {n : Nat} {r L : Nat → Int32} {j : Nat} (h : j < n) (v : Int32) : upd (fx n r L) j v = fx n r (upd L j v) := by
  funext b
  simp only [upd, fx]
  by_cases hb : b = j
  · simp [hb, h]
  · simp [hb]
theorem upd_self (L : Nat → Int32) (j : Nat) : upd L j (L j) = L := by
  funext b
  simp only [upd]
  split
  · rename_i h; rw [h]
  · rfl
/-- Arrays.fill of ints -/
theorem s_fillI {g : Nat} (hg : g = 8 ∨ g = 10 ∨ g = 11 ∨ g = 14) (v : Int32) (σ : si_M) : si_sc gP nJ7_fill_53178 [.ref g, .int v] σ = some (none, wI σ g (fx (gln g) (σ.1 g) (fun _ => v))) := by
  have hn : gln g < 2 ^ 31 := by rcases hg with rfl | rfl | rfl | rfl <;> decide
  rw [e_J7_fill_53178 g hg]
  have key : ∀ (d i : Nat) (f : Nat → Int32), i + d = gln g → si_sem gP nJ7_fill_53178 5 [.ref g, .int v, .int (nI i), .int (nI (gln g))] [] (wI σ g f) = some (none, wI σ g (fun j => if i ≤ j ∧ j < gln g then v else f j)) := by
    intro d
    induction d with
    | zero =>
      intro i f h
      rw [h_J7_fill_53178_5 g hg, cT (nI_le (by omega) (by omega))]
      congr 3
      funext j
      rw [if_neg (by omega)]
    | succ d ih =>
      intro i f h
      rw [h_J7_fill_53178_5 g hg, cF (nI_ge (by omega) hn), inT (by omega) hn, nI_add, nI_clamp (by omega), wI_sI, ih (i + 1) _ (by omega)]
      congr 3
      funext j
      simp only [upd]
      by_cases h1 : j = i
      · rw [if_neg (by omega), if_pos h1, if_pos (by omega)]
      · rw [if_neg h1]
        by_cases h2 : i ≤ j ∧ j < gln g
        · rw [if_pos (by omega), if_pos h2]
        · rw [if_neg (by omega), if_neg h2]
  have := key (gln g) 0 (σ.1 g) (by omega)
  rw [wI_id] at this
  rw [this]
  congr 3
  funext j
  simp only [fx]
  by_cases h : j < gln g
  · rw [if_pos (by omega), if_pos h]
  · rw [if_neg (by omega), if_neg h]
/-- a row of sixteen ints in the memory -/
def lm (k : Nat) (σ : si_M) (L : Nat → Int32) : si_M := wI σ k (fx 16 (σ.1 k) L)
theorem lm_at {k : Nat} {σ : si_M} {L : Nat → Int32} {j : Nat} (h : j < 16) : (lm k σ L).1 k j = L j := by unfold lm; rw [wI_same, fx_at h]
theorem lm_ne {k a : Nat} {σ : si_M} {L : Nat → Int32} (h : a ≠ k) : (lm k σ L).1 a = σ.1 a := wI_ne σ _ h
theorem lm_2 {k : Nat} {σ : si_M} {L : Nat → Int32} : (lm k σ L).2 = σ.2 := rfl
theorem lm_sI {k : Nat} {σ : si_M} {L : Nat → Int32} {j : Nat} (h : j < 16) (v : Int32) : si_sI (lm k σ L) k j v = lm k σ (upd L j v) := by unfold lm; rw [wI_sI, fx_upd h]
theorem lm_lm {k : Nat} {σ : si_M} {L L' : Nat → Int32} : lm k (lm k σ L) L' = lm k σ L' := by
  unfold lm
  rw [wI_wI, wI_same]
  congr 1
  funext j
  simp only [fx]
  split <;> rfl
theorem lm_Keep (k : Nat) (σ : si_M) (L : Nat → Int32) : Keep [k] σ (lm k σ L) := wI_Keep σ k _
def Lz : Nat → Int32 := fun _ => nI 0
theorem s_fill8 (σ : si_M) : si_sc gP nJ7_fill_53178 [.ref 8, .int (nI 0)] σ = some (none, lm 8 σ Lz) := s_fillI (by decide) (nI 0) σ
theorem s_X9_clearLeads (σ : si_M) : si_sc gP nX9_clearLeads [.ref 29] σ = some (none, lm 40 σ Lz) := by
  rw [e_X9_clearLeads]
  have key : ∀ (d i : Nat) (f : Nat → Int32), i + d = 16 → si_sem gP nX9_clearLeads 2 [.ref 29, .int (nI i)] [] (wI σ 40 f) = some (none, wI σ 40 (fun j => if i ≤ j ∧ j < 16 then nI 0 else f j)) := by
    intro d
    induction d with
    | zero =>
      intro i f h
      rw [h_X9_clearLeads_2, cT (nI_le (by omega) (by omega))]
      congr 3
      funext j
      rw [if_neg (by omega)]
    | succ d ih =>
      intro i f h
      rw [h_X9_clearLeads_2, cF (nI_ge (by omega) (by decide)), inT (by omega) (by decide), nI_add, nI_clamp (by omega), wI_sI, ih (i + 1) _ (by omega)]
      congr 3
      funext j
      simp only [upd]
      by_cases h1 : j = i
      · rw [if_neg (by omega), if_pos h1, if_pos (by omega)]
      · rw [if_neg h1]
        by_cases h2 : i ≤ j ∧ j < 16
        · rw [if_pos (by omega), if_pos h2]
        · rw [if_neg (by omega), if_neg h2]
  have := key 16 0 (σ.1 40) (by omega)
  rw [wI_id] at this
  rw [this]
  unfold lm
  congr 3
  funext j
  simp only [fx, Lz]
  by_cases h : j < 16
  · rw [if_pos (by omega), if_pos h]
  · rw [if_neg (by omega), if_neg h]
/-- all that is led to: Warshall's way -/
def cl1 (v : Nat) (L : Nat → Int32) : Nat → Int32 := (List.range 16).foldl (fun L x => if bt (L x) v then upd L x (L x ||| L v) else L) L
def clw (L : Nat → Int32) : Nat → Int32 := (List.range 16).foldl (fun L v => cl1 v L) L
theorem s_X1_close (σ : si_M) (L : Nat → Int32) : si_sc gP nX1_close [.ref 7] (lm 8 σ L) = some (none, lm 8 σ (clw L)) := by
  have inner : ∀ (v : Nat) (L : Nat → Int32), v < 16 → si_sem gP nX1_close 10 [.ref 7, .int (nI v), .int (nI 0)] [] (lm 8 σ L) = si_sem gP nX1_close 10 [.ref 7, .int (nI v), .int (nI 16)] [] (lm 8 σ (cl1 v L)) := by
    intro v L hv
    have := lp_fold' (F := fun i L => si_sem gP nX1_close 10 [.ref 7, .int (nI v), .int (nI i)] [] (lm 8 σ L)) (G := List.range 16) (f := fun L x => if bt (L x) v then upd L x (L x ||| L v) else L) (fun i L hi => by
      have hi : i < 16 := by simpa using hi
      rw [List.getElem_range, h_X1_close_10, cF (nI_ge hi (by decide)), inT hi (by decide), nI_clamp (by omega), lm_at hi, s_X8_isIn _ (by omega), ci_s, bz, nI_add]
      cases hb : bt (L i) v with
      | false => rw [cond_false]; rfl
      | true => rw [cond_true, inT hi (by decide), inT hv (by decide), inT hi (by decide), nI_clamp (by omega), lm_at hi, lm_at hv, lm_sI hi]; rfl) L
    rw [List.length_range] at this
    exact this
  have outer := lp_fold' (F := fun i L => si_sem gP nX1_close 2 [.ref 7, .int (nI i), si_U] [] (lm 8 σ L)) (G := List.range 16) (f := fun L v => cl1 v L) (fun i L hi => by
    have hi : i < 16 := by simpa using hi
    rw [List.getElem_range, h_X1_close_2, cF (nI_ge hi (by decide)), inner i L hi, h_X1_close_10, cT (nI_le (Nat.le_refl 16) (by decide)), nI_add]) L
  rw [e_X1_close]
  refine outer.trans ?_
  rw [List.length_range, h_X1_close_2, cT (nI_le (Nat.le_refl 16) (by decide))]
  rfl
theorem s_X9_closeLeads (σ : si_M) (L : Nat → Int32) : si_sc gP nX9_closeLeads [.ref 29] (lm 40 σ L) = some (none, lm 40 σ (clw L)) := by
  have inner : ∀ (v : Nat) (L : Nat → Int32), v < 16 → si_sem gP nX9_closeLeads 10 [.ref 29, .int (nI v), .int (nI 0)] [] (lm 40 σ L) = si_sem gP nX9_closeLeads 10 [.ref 29, .int (nI v), .int (nI 16)] [] (lm 40 σ (cl1 v L)) := by
    intro v L hv
    have := lp_fold' (F := fun i L => si_sem gP nX9_closeLeads 10 [.ref 29, .int (nI v), .int (nI i)] [] (lm 40 σ L)) (G := List.range 16) (f := fun L x => if bt (L x) v then upd L x (L x ||| L v) else L) (fun i L hi => by
      have hi : i < 16 := by simpa using hi
      rw [List.getElem_range, h_X9_closeLeads_10, cF (nI_ge hi (by decide)), inT hi (by decide), inT hi (by decide), nI_clamp (by omega), nI_clamp (by omega), lm_at hi, ssh1 _ (by omega), bo, nI_add, inT hi (by decide), inT hi (by decide), inT hv (by decide)]
      cases hb : bt (L i) v with
      | false => rw [cond_false, or0', lm_sI hi, upd_self]; rfl
      | true => rw [cond_true, lm_at hv, lm_sI hi]; rfl) L
    rw [List.length_range] at this
    exact this
  have outer := lp_fold' (F := fun i L => si_sem gP nX9_closeLeads 2 [.ref 29, .int (nI i), si_U] [] (lm 40 σ L)) (G := List.range 16) (f := fun L v => cl1 v L) (fun i L hi => by
    have hi : i < 16 := by simpa using hi
    rw [List.getElem_range, h_X9_closeLeads_2, cF (nI_ge hi (by decide)), inner i L hi, h_X9_closeLeads_10, cT (nI_le (Nat.le_refl 16) (by decide)), nI_add]) L
  rw [e_X9_closeLeads]
  refine outer.trans ?_
  rw [List.length_range, h_X9_closeLeads_2, cT (nI_le (Nat.le_refl 16) (by decide))]
  rfl
/-- who leads to itself -/
def lps (L : Nat → Int32) : Int32 := (List.range 16).foldl (fun s x => s ||| (L x &&& si_ishl (nI 1) (nI x))) (nI 0)
theorem s_X1_loops (σ : si_M) (L : Nat → Int32) : si_sc gP nX1_loops [.ref 7] (lm 8 σ L) = some (some (.int (lps L)), lm 8 σ L) := by
  have := lp_fold' (F := fun i s => si_sem gP nX1_loops 4 [.ref 7, .int s, .int (nI i)] [] (lm 8 σ L)) (G := List.range 16) (f := fun s x => s ||| (L x &&& si_ishl (nI 1) (nI x))) (fun i s hi => by
    have hi : i < 16 := by simpa using hi
    rw [List.getElem_range, h_X1_loops_4, cF (nI_ge hi (by decide)), inT hi (by decide), nI_clamp (by omega), lm_at hi, nI_add]) (nI 0)
  rw [e_X1_loops]
  refine this.trans ?_
  rw [List.length_range, h_X1_loops_4, cT (nI_le (Nat.le_refl 16) (by decide))]
  rfl
theorem s_X9_loops (σ : si_M) (L : Nat → Int32) : si_sc gP nX9_loops [.ref 29] (lm 40 σ L) = some (some (.int (lps L)), lm 40 σ L) := by
  have := lp_fold' (F := fun i s => si_sem gP nX9_loops 4 [.ref 29, .int s, .int (nI i)] [] (lm 40 σ L)) (G := List.range 16) (f := fun s x => s ||| (L x &&& si_ishl (nI 1) (nI x))) (fun i s hi => by
    have hi : i < 16 := by simpa using hi
    rw [List.getElem_range, h_X9_loops_4, cF (nI_ge hi (by decide)), inT hi (by decide), nI_clamp (by omega), lm_at hi, nI_add]) (nI 0)
  rw [e_X9_loops]
  refine this.trans ?_
  rw [List.length_range, h_X9_loops_4, cT (nI_le (Nat.le_refl 16) (by decide))]
  rfl
/-- the arrows of units -/
def uns (G : List PR) : Nat → Int32 := G.foldl (fun L q => if unB q then upd L q.1 (L q.1 ||| si_ishl (nI 1) (nI (q.2.getD 0 0 - 1))) else L) Lz
theorem Gm.lm {σ : si_M} {g : Nat} {S : List PR × Bool} (h : Gm σ g S) (L : Nat → Int32) (h1 : g ≠ 8) (h2 : g + 1 ≠ 8) : Gm (lm 8 σ L) g S := h.keep (lm_Keep 8 σ L) (by simpa using h1) (by simpa using h2)
theorem s_X1_followUnits {g : Nat} (hg : g = 3 ∨ g = 25) {σ : si_M} {S : List PR × Bool} (hm : Gm σ g S) (hG : Gok S.1) : si_sc gP nX1_followUnits [.ref 7, .ref g] σ = some (none, lm 8 σ (clw (uns S.1))) := by
  have hl := hG.1
  have hg4 : g = 3 ∨ g = 5 ∨ g = 25 ∨ g = 27 := by omega
  rw [e_X1_followUnits g hg, s_fill8, cv_s]
  have := lp_fold' (F := fun i L => si_sem gP nX1_followUnits 10 [.ref 7, .ref g, .int (nI i), si_U, si_U] [] (lm 8 σ L)) (G := S.1) (f := fun L q => if unB q then upd L q.1 (L q.1 ||| si_ishl (nI 1) (nI (q.2.getD 0 0 - 1))) else L) (fun i L hi => by
    have hok := hG.2.1.at hi
    have hmL := hm.lm L (by omega) (by omega)
    rw [h_X1_followUnits_10 g hg, e_X2_count g hg4, ci_s, hmL.1, cF (nI_ge hi (by omega)), s_X2_at hg4 hmL hl hi, cl_s, s_X5_isUnit hok, ci_s, bz, nI_add]
    cases hu : unB S.1[i] with
    | false => rw [cond_false]; rfl
    | true => rw [cond_true, s_X5_left hok, ci_s, inT hok.1 (by decide), s_X5_rightSet hok, ci_s, inT hok.1 (by decide), nI_clamp (by have := hok.1; omega), lm_at hok.1, lm_sI hok.1, rs_unit hok hu]; rfl) Lz
  refine this.trans ?_
  rw [h_X1_followUnits_10 g hg, e_X2_count g hg4, ci_s, (hm.lm _ (by omega) (by omega)).1, cT (nI_le (Nat.le_refl _) (by omega)), s_X1_close, cv_s]
  rfl
theorem s_X9_layUnits {σ : si_M} {G : List PR} (h1 : σ.1 29 1 = nI G.length) (h2 : Row (σ.2 30) G) (hG : Gok G) : si_sc gP nX9_layUnits [.ref 29] σ = some (none, lm 40 σ (clw (uns G))) := by
  have hl := hG.1
  rw [e_X9_layUnits, s_X9_clearLeads, cv_s]
  have h1' : ∀ L, (lm 40 σ L).1 29 1 = nI G.length := fun L => by rw [lm_ne (by decide)]; exact h1
  have := lp_fold' (F := fun i L => si_sem gP nX9_layUnits 6 [.ref 29, .int (nI i)] [] (lm 40 σ L)) (G := G) (f := fun L q => if unB q then upd L q.1 (L q.1 ||| si_ishl (nI 1) (nI (q.2.getD 0 0 - 1))) else L) (fun i L hi => by
    have hok := hG.2.1.at hi
    have h60 : i < 60 := by omega
    rw [h_X9_layUnits_6, h1', cF (nI_ge hi (by omega)), inT h60 (by decide), nI_clamp (by omega), lm_2, h2.at hi, s_X9_left hok, ci_s, inT hok.1 (by decide), inT h60 (by decide), lm_2, h2.at hi, s_X9_isUnit hok, ci_s, bz, nI_add, inT hok.1 (by decide), inT h60 (by decide), nI_clamp (by have := hok.1; omega), lm_at hok.1]
    cases hu : unB G[i] with
    | false => rw [cond_false, or0', lm_sI hok.1, upd_self]; rfl
    | true =>
      obtain ⟨a, hw, ha1, ha2⟩ := unB_w hok hu
      have e : G[i].2.getD 0 0 = a := by rw [hw]; rfl
      rw [cond_true, lm_2, h2.at hi, s_X9_at hok (by decide), ci_s, inT hok.1 (by decide), e, sub1 (by omega), lm_sI hok.1]
      simp [e]) Lz
  refine this.trans ?_
  rw [h_X9_layUnits_6, h1', cT (nI_le (Nat.le_refl _) (by omega)), s_X9_closeLeads, cv_s]
  rfl
