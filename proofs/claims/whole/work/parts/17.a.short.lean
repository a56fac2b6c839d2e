/-! short words: sets of words as bits -/
def lb (x : Int64) (i : Nat) : Bool := x.toBitVec.getLsbD i
theorem lb_ext {x y : Int64} (h : ∀ i, i < 64 → lb x i = lb y i) : x = y := wb_inj (BitVec.eq_of_getLsbD_eq (fun i hi => h i hi))
theorem lb_or (x y : Int64) (i : Nat) : lb (x ||| y) i = (lb x i || lb y i) := by unfold lb; rw [Int64.toBitVec_or, BitVec.getLsbD_or]
theorem lb_and (x y : Int64) (i : Nat) : lb (x &&& y) i = (lb x i && lb y i) := by unfold lb; rw [Int64.toBitVec_and, BitVec.getLsbD_and]
theorem lb_xor (x y : Int64) (i : Nat) : lb (x ^^^ y) i = (lb x i ^^ lb y i) := by unfold lb; rw [Int64.toBitVec_xor, BitVec.getLsbD_xor]
theorem lb_N (n : Nat) {i : Nat} (hi : i < 64) : lb (lN n) i = n.testBit i := by
  show (BitVec.ofNat 64 n).getLsbD i = _
  rw [BitVec.getLsbD_ofNat, decide_eq_true hi, Bool.true_and]
theorem lb_big {x : Int64} {i : Nat} (h : 64 ≤ i) : lb x i = false := BitVec.getLsbD_of_ge _ _ h
theorem lb_0 (i : Nat) : lb (lN 0) i = false := by
  by_cases h : i < 64
  · rw [lb_N 0 h]; simp
  · exact lb_big (by omega)
theorem lb_m1 {i : Nat} (hi : i < 64) : lb (-1) i = true := by
  unfold lb
  rw [show ((-1 : Int64)).toBitVec = BitVec.allOnes 64 by decide, BitVec.getLsbD_allOnes, decide_eq_true hi]
theorem lb_shl (x : Int64) {k : Nat} (hk : k < 64) {i : Nat} (hi : i < 64) : lb (si_lshl x (nI k)) i = (decide (k ≤ i) && lb x (i - k)) := by
  obtain ⟨n, _, rfl⟩ := wb_of x
  rw [lshl' hk, lb_N _ hi, Nat.testBit_mul_two_pow]
  by_cases h : k ≤ i
  · rw [decide_eq_true h, Bool.true_and, lb_N n (by omega), Bool.true_and]
  · rw [decide_eq_false h, Bool.false_and, Bool.false_and]
theorem lb_shr1 (x : Int64) {k : Nat} (hk : k < 64) : (si_lushr x (nI k) &&& lN 1) = lN 0 ↔ lb x k = false := by
  unfold si_lushr
  rw [wb_cu k hk]
  exact ts_bit hk (u_tn (by omega))
theorem lb_1 {i : Nat} (hi : i < 64) : lb (lN 1) i = decide (i = 0) := by
  have : ∀ j : Fin 64, lb (lN 1) j.1 = decide (j.1 = 0) := by decide +kernel
  exact this ⟨i, hi⟩
abbrev LT : Type := Int64 × Int64 × Int64
def prs (h t : Int64) : Int64 := (List.range 8).foldl (fun s i => if lb h i then s ||| si_lshl t (nI (8 * i)) else s) (lN 0)
def rOn (A B : LT) : LT := (A.1 &&& B.1, (if A.1 = lN 0 then lN 0 else B.2.1) ||| (if B.1 = lN 0 then lN 0 else A.2.1), (prs A.2.1 B.2.1 ||| (if A.1 = lN 0 then lN 0 else B.2.2)) ||| (if B.1 = lN 0 then lN 0 else A.2.2))
def Lok (A : LT) : Prop := (A.1 = lN 0 ∨ A.1 = lN 1) ∧ ∀ i, 8 ≤ i → lb A.2.1 i = false
def mm (A : LT) : List Nat → Bool
  | [] => !decide (A.1 = lN 0)
  | [a] => lb A.2.1 (a - 17)
  | [a, b] => lb A.2.2 (8 * (a - 17) + (b - 17))
  | _ => false
theorem l01 : ¬ lN 1 = lN 0 := by decide
theorem prs_k (h t : Int64) (ht : ∀ i, 8 ≤ i → lb t i = false) {x y : Nat} (hx : x < 8) (hy : y < 8) : ∀ n, n ≤ 8 → ∀ s, lb ((List.range n).foldl (fun s i => if lb h i then s ||| si_lshl t (nI (8 * i)) else s) s) (8 * x + y) = (lb s (8 * x + y) || (decide (x < n) && (lb h x && lb t y))) := by
  intro n
  induction n with
  | zero => intro _ s; simp
  | succ n ih =>
    intro hn s
    rw [List.range_succ, List.foldl_append, List.foldl_cons, List.foldl_nil]
    have hsh : lb (si_lshl t (nI (8 * n))) (8 * x + y) = (decide (x = n) && lb t y) := by
      rw [lb_shl t (show 8 * n < 64 by omega) (show 8 * x + y < 64 by omega)]
      by_cases e : x = n
      · subst e
        rw [decide_eq_true (show 8 * x ≤ 8 * x + y by omega), decide_eq_true rfl, show 8 * x + y - 8 * x = y by omega]
      · rw [decide_eq_false e, Bool.false_and]
        by_cases h1 : 8 * n ≤ 8 * x + y
        · rw [decide_eq_true h1, ht _ (by omega), Bool.and_false]
        · rw [decide_eq_false h1, Bool.false_and]
    by_cases e : x = n
    · cases hb : lb h n with
      | false =>
        rw [if_neg (by decide), ih (by omega) s, e, decide_eq_false (show ¬ n < n by omega), hb, Bool.false_and, Bool.false_and, Bool.and_false]
      | true =>
        rw [if_pos rfl, lb_or, ih (by omega) s, hsh, e, decide_eq_false (show ¬ n < n by omega), decide_eq_true rfl, decide_eq_true (show n < n + 1 by omega), hb, Bool.false_and, Bool.or_false, Bool.true_and, Bool.true_and]
    · have hd : decide (x < n + 1) = decide (x < n) := decide_eq_decide.mpr ⟨fun _ => by omega, fun _ => by omega⟩
      cases hb : lb h n with
      | false => rw [if_neg (by decide), ih (by omega) s, hd]
      | true => rw [if_pos rfl, lb_or, ih (by omega) s, hsh, decide_eq_false e, Bool.false_and, Bool.or_false, hd]
theorem prs_b {h t : Int64} (ht : ∀ i, 8 ≤ i → lb t i = false) {x y : Nat} (hx : x < 8) (hy : y < 8) : lb (prs h t) (8 * x + y) = (lb h x && lb t y) := by
  unfold prs
  rw [prs_k h t ht hx hy 8 (Nat.le_refl _), lb_0, decide_eq_true hx, Bool.false_or, Bool.true_and]
theorem rOn_ok {A B : LT} (hA : Lok A) (hB : Lok B) : Lok (rOn A B) := by
  refine ⟨?_, fun i hi => ?_⟩
  · show A.1 &&& B.1 = lN 0 ∨ A.1 &&& B.1 = lN 1
    rcases hA.1 with h | h <;> rcases hB.1 with h' | h' <;> rw [h, h'] <;> decide
  · show lb ((if A.1 = lN 0 then lN 0 else B.2.1) ||| (if B.1 = lN 0 then lN 0 else A.2.1)) i = false
    rw [lb_or]
    split <;> split <;> simp [lb_0, hA.2 i hi, hB.2 i hi]
/-- words of terminals -/
def wT (w : List Nat) : Prop := ∀ a ∈ w, 17 ≤ a ∧ a ≤ 24
theorem mm_rOn {A B : LT} (hA : Lok A) (hB : Lok B) {w : List Nat} (hw : wT w) (hl : w.length ≤ 2) : mm (rOn A B) w = true ↔ ∃ u v, w = u ++ v ∧ mm A u = true ∧ mm B v = true := by
  have nA : mm A [] = true ↔ ¬ A.1 = lN 0 := by simp [mm]
  have nB : mm B [] = true ↔ ¬ B.1 = lN 0 := by simp [mm]
  match w, hl with
  | [], _ =>
    have e : mm (rOn A B) [] = true ↔ ¬ A.1 = lN 0 ∧ ¬ B.1 = lN 0 := by
      show (!decide (A.1 &&& B.1 = lN 0)) = true ↔ _
      rcases hA.1 with h | h <;> rcases hB.1 with h' | h' <;> rw [h, h'] <;> decide
    rw [e]
    constructor
    · rintro ⟨h1, h2⟩; exact ⟨[], [], rfl, nA.mpr h1, nB.mpr h2⟩
    · rintro ⟨u, v, h0, h1, h2⟩
      have := List.append_eq_nil_iff.mp h0.symm
      rw [this.1] at h1
      rw [this.2] at h2
      exact ⟨nA.mp h1, nB.mp h2⟩
  | [a], _ =>
    have e : mm (rOn A B) [a] = true ↔ (¬ A.1 = lN 0 ∧ mm B [a] = true) ∨ (mm A [a] = true ∧ ¬ B.1 = lN 0) := by
      show lb ((if A.1 = lN 0 then lN 0 else B.2.1) ||| (if B.1 = lN 0 then lN 0 else A.2.1)) (a - 17) = true ↔ _
      rw [lb_or, Bool.or_eq_true]
      by_cases h1 : A.1 = lN 0 <;> by_cases h2 : B.1 = lN 0 <;> simp [h1, h2, lb_0, mm]
    rw [e]
    constructor
    · rintro (⟨h1, h2⟩ | ⟨h1, h2⟩)
      · exact ⟨[], [a], rfl, nA.mpr h1, h2⟩
      · exact ⟨[a], [], rfl, h1, nB.mpr h2⟩
    · rintro ⟨u, v, h0, h1, h2⟩
      match u, h0, h1 with
      | [], h0, h1 => rw [List.nil_append] at h0; rw [← h0] at h2; exact Or.inl ⟨nA.mp h1, h2⟩
      | [c], h0, h1 =>
        have : c = a ∧ v = [] := by simpa [eq_comm] using h0
        rw [this.2] at h2
        rw [this.1] at h1
        exact Or.inr ⟨h1, nB.mp h2⟩
      | c :: d :: u, h0, h1 => simp at h0
  | [a, b], _ =>
    have ha := hw a (by simp)
    have hb := hw b (by simp)
    have e : mm (rOn A B) [a, b] = true ↔ (¬ A.1 = lN 0 ∧ mm B [a, b] = true) ∨ (mm A [a] = true ∧ mm B [b] = true) ∨ (mm A [a, b] = true ∧ ¬ B.1 = lN 0) := by
      show lb ((prs A.2.1 B.2.1 ||| (if A.1 = lN 0 then lN 0 else B.2.2)) ||| (if B.1 = lN 0 then lN 0 else A.2.2)) (8 * (a - 17) + (b - 17)) = true ↔ _
      rw [lb_or, lb_or, prs_b hB.2 (by omega) (by omega), Bool.or_eq_true, Bool.or_eq_true, Bool.and_eq_true]
      by_cases h1 : A.1 = lN 0 <;> by_cases h2 : B.1 = lN 0 <;> simp [h1, h2, lb_0, mm] <;> grind
    rw [e]
    constructor
    · rintro (⟨h1, h2⟩ | ⟨h1, h2⟩ | ⟨h1, h2⟩)
      · exact ⟨[], [a, b], rfl, nA.mpr h1, h2⟩
      · exact ⟨[a], [b], rfl, h1, h2⟩
      · exact ⟨[a, b], [], rfl, h1, nB.mpr h2⟩
    · rintro ⟨u, v, h0, h1, h2⟩
      match u, h0, h1 with
      | [], h0, h1 => rw [List.nil_append] at h0; rw [← h0] at h2; exact Or.inl ⟨nA.mp h1, h2⟩
      | [c], h0, h1 =>
        have : c = a ∧ v = [b] := by simpa [eq_comm] using h0
        rw [this.2] at h2
        rw [this.1] at h1
        exact Or.inr (Or.inl ⟨h1, h2⟩)
      | [c, d], h0, h1 =>
        have : c = a ∧ d = b ∧ v = [] := by simpa [eq_comm] using h0
        rw [this.2.2] at h2
        rw [this.1, this.2.1] at h1
        exact Or.inr (Or.inr ⟨h1, nB.mp h2⟩)
      | c :: d :: f :: u, h0, h1 => simp at h0
/-- the words of a symbol -/
def sL (L : Nat → LT) (a : Nat) : LT := if a ≤ 16 then L (a - 1) else (lN 0, si_lshl (lN 1) (nI (a - 17)), lN 0)
def rW (L : Nat → LT) (w : List Nat) (A : LT) : LT := w.foldl (fun A a => rOn A (sL L a)) A
def e1L : LT := (lN 1, lN 0, lN 0)
theorem sL_ok {L : Nat → LT} (hL : ∀ x, Lok (L x)) {a : Nat} (ha : a ≤ 24) : Lok (sL L a) := by
  unfold sL
  split
  · exact hL _
  · refine ⟨Or.inl rfl, fun i hi => ?_⟩
    by_cases h : i < 64
    · show lb (si_lshl (lN 1) (nI (a - 17))) i = false
      rw [lb_shl _ (by omega) h, lb_1 (by omega), decide_eq_false (show ¬ i - (a - 17) = 0 by omega), Bool.and_false]
    · exact lb_big (by omega)
/-- derived from a row of symbols -/
def dW (L : Nat → LT) : List Nat → List Nat → Prop
  | [], v => v = []
  | a :: w, v => ∃ u1 u2, v = u1 ++ u2 ∧ mm (sL L a) u1 = true ∧ dW L w u2
theorem rW_iff {L : Nat → LT} (hL : ∀ x, Lok (L x)) : ∀ (w : List Nat) (A : LT), (∀ a ∈ w, a ≤ 24) → Lok A → Lok (rW L w A) ∧ ∀ v, wT v → v.length ≤ 2 → (mm (rW L w A) v = true ↔ ∃ u1 u2, v = u1 ++ u2 ∧ mm A u1 = true ∧ dW L w u2) := by
  intro w
  induction w with
  | nil =>
    intro A _ hA
    refine ⟨hA, fun v _ _ => ?_⟩
    constructor
    · intro h; exact ⟨v, [], (List.append_nil v).symm, h, rfl⟩
    · rintro ⟨u1, u2, h0, h1, h2⟩
      have h2 : u2 = [] := h2
      rw [h0, h2, List.append_nil]
      exact h1
  | cons a w ih =>
    intro A ha hA
    have hs := sL_ok hL (ha a (List.mem_cons_self ..))
    have hr := rOn_ok hA hs
    obtain ⟨i1, i2⟩ := ih (rOn A (sL L a)) (fun b hb => ha b (List.mem_cons_of_mem _ hb)) hr
    refine ⟨i1, fun v hv hl => ?_⟩
    rw [show rW L (a :: w) A = rW L w (rOn A (sL L a)) from rfl, i2 v hv hl]
    constructor
    · rintro ⟨u1, u2, h0, h1, h2⟩
      have hu1 : wT u1 := fun b hb => hv b (by rw [h0]; exact List.mem_append_left _ hb)
      have hl1 : u1.length ≤ 2 := by rw [h0, List.length_append] at hl; omega
      obtain ⟨p, q, g0, g1, g2⟩ := (mm_rOn hA hs hu1 hl1).mp h1
      exact ⟨p, q ++ u2, by rw [h0, g0, List.append_assoc], g1, q, u2, rfl, g2, h2⟩
    · rintro ⟨u1, u2, h0, h1, p, q, g0, g1, g2⟩
      have hv2 : v = (u1 ++ p) ++ q := by rw [h0, g0, List.append_assoc]
      have hu1 : wT (u1 ++ p) := fun b hb => hv b (by rw [hv2]; exact List.mem_append_left _ hb)
      have hl1 : (u1 ++ p).length ≤ 2 := by rw [hv2, List.length_append] at hl; omega
      exact ⟨u1 ++ p, q, hv2, (mm_rOn hA hs hu1 hl1).mpr ⟨u1, p, rfl, h1, g1⟩, g2⟩
theorem rW_dW {L : Nat → LT} (hL : ∀ x, Lok (L x)) {w : List Nat} (hw : ∀ a ∈ w, a ≤ 24) {v : List Nat} (hv : wT v) (hl : v.length ≤ 2) : mm (rW L w e1L) v = true ↔ dW L w v := by
  have he : Lok e1L := ⟨Or.inr rfl, fun i _ => lb_0 i⟩
  rw [(rW_iff hL w e1L hw he).2 v hv hl]
  constructor
  · rintro ⟨u1, u2, h0, h1, h2⟩
    have : u1 = [] := by
      match u1, h1 with
      | [], _ => rfl
      | [a], h1 => simp [mm, e1L, lb_0] at h1
      | [a, b], h1 => simp [mm, e1L, lb_0] at h1
      | a :: b :: c :: u, h1 => simp [mm] at h1
    rw [h0, this, List.nil_append]
    exact h2
  · intro h
    exact ⟨[], v, rfl, by simp [mm, e1L, l01], h⟩
